/-! printed by wip/am/mk64.py: the reference's words -/
/-- row i of a table of longs holds this name -/
def LN (l : aZL) (k i : Nat) (nm : List Int) : Prop := ∀ q, q < 3 → l k (3 * i + q) = pkN nm q
def ffd (ns : List (List Int)) (nm : List Int) : Nat → Nat → Int
  | 0, _ => -1
  | k + 1, i => if ns.getD i [] = nm then (i : Int) else ffd ns nm k (i + 1)
theorem ffd_cases (ns : List (List Int)) (nm : List Int) : ∀ k i, (ffd ns nm k i = -1 ∧ ∀ j, i ≤ j → j < i + k → ns.getD j [] ≠ nm) ∨ (∃ j, i ≤ j ∧ j < i + k ∧ ffd ns nm k i = (j : Int) ∧ ns.getD j [] = nm) := by
  intro k
  induction k with
  | zero => intro i; exact Or.inl ⟨rfl, fun j h1 h2 => absurd h2 (by omega)⟩
  | succ k ih =>
    intro i
    unfold ffd
    by_cases h : ns.getD i [] = nm
    · rw [if_pos h]
      exact Or.inr ⟨i, Nat.le_refl _, by omega, rfl, h⟩
    · rw [if_neg h]
      rcases ih (i + 1) with ⟨h1, h2⟩ | ⟨j, h1, h2, h3, h4⟩
      · refine Or.inl ⟨h1, fun j k1 k2 => ?_⟩
        by_cases e : j = i
        · rw [e]; exact h
        · exact h2 j (by omega) (by omega)
      · exact Or.inr ⟨j, by omega, by omega, h3, h4⟩
/-- different names: the first is the last -/
theorem ffd_fd {ns : List (List Int)} (hd : ∀ i j, i < j → j < ns.length → ns.getD i [] ≠ ns.getD j []) (nm : List Int) : ffd ns nm ns.length 0 = fd ns nm ns.length := by
  rcases ffd_cases ns nm ns.length 0 with ⟨h1, h2⟩ | ⟨j, h1, h2, h3, h4⟩
  · rcases fd_cases ns nm ns.length with ⟨g1, g2⟩ | ⟨i, g1, g2, g3⟩
    · rw [h1, g1]
    · exact absurd g3 (h2 i (Nat.zero_le _) (by omega))
  · rcases fd_cases ns nm ns.length with ⟨g1, g2⟩ | ⟨i, g1, g2, g3⟩
    · exact absurd h4 (g2 j (by omega))
    · rw [h3, g2]
      rcases Nat.lt_trichotomy i j with k | k | k
      · exact absurd (g3.trans h4.symm) (hd i j k (by omega))
      · rw [k]
      · exact absurd (h4.trans g3.symm) (hd j i k g1)
theorem w159n63_0 {d : Nat} {B : aH} {Q : aR → Prop} (hB : a_Can B) (x1 x3 : Int) (s : Nat → Nat → Int32) (l : Nat → Nat → Int64) (w : ((0 ≤ (3 * x1) ∧ (3 * x1) < 55200) ∧ ((0 ≤ (3 * x3) ∧ (3 * x3) < 18006) ∧ (((l 63 (3 * x1).toNat) = (l 74 (3 * x3).toNat) → ((0 ≤ ((3 * x1) + 1) ∧ ((3 * x1) + 1) < 55200) ∧ ((0 ≤ ((3 * x3) + 1) ∧ ((3 * x3) + 1) < 18006) ∧ (((l 63 ((3 * x1) + 1).toNat) = (l 74 ((3 * x3) + 1).toNat) → ((0 ≤ ((3 * x1) + 2) ∧ ((3 * x1) + 2) < 55200) ∧ ((0 ≤ ((3 * x3) + 2) ∧ ((3 * x3) + 2) < 18006) ∧ (((l 63 ((3 * x1) + 2).toNat) = (l 74 ((3 * x3) + 2).toNat) → Q (.inl (some (iv 1)), (mkH B s l))) ∧ ((l 63 ((3 * x1) + 2).toNat) ≠ (l 74 ((3 * x3) + 2).toNat) → Q (.inl (some (iv 0)), (mkH B s l))))))) ∧ ((l 63 ((3 * x1) + 1).toNat) ≠ (l 74 ((3 * x3) + 1).toNat) → Q (.inl (some (iv 0)), (mkH B s l))))))) ∧ ((l 63 (3 * x1).toNat) ≠ (l 74 (3 * x3).toNat) → Q (.inl (some (iv 0)), (mkH B s l))))))) : a_W d 159 0 [.ref 63, iv x1, .ref 74, iv x3] [] (mkH B s l) Q := by
  refine w_aln (p := 1) (q159 0) rfl rfl ?_
  refine w_ic (p := 2) (q159 1) rfl ?_
  refine w_iln (p := 3) (q159 2) rfl rfl ?_
  refine w_mulz (p := 4) (q159 3) rfl ?_
  obtain ⟨o1, w⟩ := w
  refine w_la (p := 5) (q159 4) rfl (r63 hB) (by decide) o1 ?_
  refine w_aln (p := 6) (q159 5) rfl rfl ?_
  refine w_ic (p := 7) (q159 6) rfl ?_
  refine w_iln (p := 8) (q159 7) rfl rfl ?_
  refine w_mulz (p := 9) (q159 8) rfl ?_
  obtain ⟨o2, w⟩ := w
  refine w_la (p := 10) (q159 9) rfl (r74 hB) (by decide) o2 ?_
  refine w_lcmp (p := 11) (q159 10) rfl ?_
  by_cases c3 : (l 63 (3 * x1).toNat) = (l 74 (3 * x3).toNat)
  · replace w := w.1 c3
    refine w_i1f (p := 14) (q159 11) rfl (inR_i32 _) (fun e => e (lc0 c3)) ?_
    refine w_aln (p := 15) (q159 14) rfl rfl ?_
    refine w_ic (p := 16) (q159 15) rfl ?_
    refine w_iln (p := 17) (q159 16) rfl rfl ?_
    refine w_mulz (p := 18) (q159 17) rfl ?_
    refine w_ic (p := 19) (q159 18) rfl ?_
    refine w_add (p := 20) (q159 19) rfl ?_
    obtain ⟨o4, w⟩ := w
    refine w_la (p := 21) (q159 20) rfl (r63 hB) (by decide) o4 ?_
    refine w_aln (p := 22) (q159 21) rfl rfl ?_
    refine w_ic (p := 23) (q159 22) rfl ?_
    refine w_iln (p := 24) (q159 23) rfl rfl ?_
    refine w_mulz (p := 25) (q159 24) rfl ?_
    refine w_ic (p := 26) (q159 25) rfl ?_
    refine w_add (p := 27) (q159 26) rfl ?_
    obtain ⟨o5, w⟩ := w
    refine w_la (p := 28) (q159 27) rfl (r74 hB) (by decide) o5 ?_
    refine w_lcmp (p := 29) (q159 28) rfl ?_
    by_cases c6 : (l 63 ((3 * x1) + 1).toNat) = (l 74 ((3 * x3) + 1).toNat)
    · replace w := w.1 c6
      refine w_i1f (p := 32) (q159 29) rfl (inR_i32 _) (fun e => e (lc0 c6)) ?_
      refine w_aln (p := 33) (q159 32) rfl rfl ?_
      refine w_ic (p := 34) (q159 33) rfl ?_
      refine w_iln (p := 35) (q159 34) rfl rfl ?_
      refine w_mulz (p := 36) (q159 35) rfl ?_
      refine w_ic (p := 37) (q159 36) rfl ?_
      refine w_add (p := 38) (q159 37) rfl ?_
      obtain ⟨o7, w⟩ := w
      refine w_la (p := 39) (q159 38) rfl (r63 hB) (by decide) o7 ?_
      refine w_aln (p := 40) (q159 39) rfl rfl ?_
      refine w_ic (p := 41) (q159 40) rfl ?_
      refine w_iln (p := 42) (q159 41) rfl rfl ?_
      refine w_mulz (p := 43) (q159 42) rfl ?_
      refine w_ic (p := 44) (q159 43) rfl ?_
      refine w_add (p := 45) (q159 44) rfl ?_
      obtain ⟨o8, w⟩ := w
      refine w_la (p := 46) (q159 45) rfl (r74 hB) (by decide) o8 ?_
      refine w_lcmp (p := 47) (q159 46) rfl ?_
      by_cases c9 : (l 63 ((3 * x1) + 2).toNat) = (l 74 ((3 * x3) + 2).toNat)
      · replace w := w.1 c9
        refine w_i1f (p := 50) (q159 47) rfl (inR_i32 _) (fun e => e (lc0 c9)) ?_
        refine w_ic (p := 51) (q159 50) rfl ?_
        refine w_goto (q159 51) ?_
        exact w_ret (q159 55) rfl w
      · replace w := w.2 c9
        refine w_i1t (q159 47) (inR_i32 _) (lc1 c9) ?_
        refine w_ic (p := 55) (q159 54) rfl ?_
        exact w_ret (q159 55) rfl w
    · replace w := w.2 c6
      refine w_i1t (q159 29) (inR_i32 _) (lc1 c6) ?_
      refine w_ic (p := 55) (q159 54) rfl ?_
      exact w_ret (q159 55) rfl w
  · replace w := w.2 c3
    refine w_i1t (q159 11) (inR_i32 _) (lc1 c3) ?_
    refine w_ic (p := 55) (q159 54) rfl ?_
    exact w_ret (q159 55) rfl w
theorem m_alike63 {d : Nat} {B : aH} (hB : a_Can B) (s : aZ) (l : aZL) (i j : Nat) (hi : i < 18400) (hj : j < 6002) (a b : List Int) (ha : VN a) (hb : VN b) (h1 : LN l 63 i a) (h2 : LN l 74 j b) : a_W d 159 0 [.ref 63, iv (i : Int), .ref 74, iv (j : Int)] [] (mkH B s l) (fun q => q = (.inl (some (iv (if a = b then 1 else 0))), mkH B s l)) := by
  have e0 : (3 * (i : Int)).toNat = 3 * i + 0 := by omega
  have e1 : (3 * (i : Int) + 1).toNat = 3 * i + 1 := by omega
  have e2 : (3 * (i : Int) + 2).toNat = 3 * i + 2 := by omega
  have f0 : (3 * (j : Int)).toNat = 3 * j + 0 := by omega
  have f1 : (3 * (j : Int) + 1).toNat = 3 * j + 1 := by omega
  have f2 : (3 * (j : Int) + 2).toNat = 3 * j + 2 := by omega
  have no : ∀ q, q < 3 → pkN a q ≠ pkN b q → ((Sum.inl (some (iv 0)), mkH B s l) : aR) = (.inl (some (iv (if a = b then 1 else 0))), mkH B s l) := by
    intro q _ h
    rw [if_neg (fun e => h (by rw [e]))]
  refine w159n63_0 hB _ _ s l ⟨⟨by omega, by omega⟩, ⟨by omega, by omega⟩, ?_⟩
  rw [e0, e1, e2, f0, f1, f2, h1 0 (by decide), h1 1 (by decide), h1 2 (by decide), h2 0 (by decide), h2 1 (by decide), h2 2 (by decide)]
  refine ⟨fun g0 => ⟨⟨by omega, by omega⟩, ⟨by omega, by omega⟩, fun g1 => ⟨⟨by omega, by omega⟩, ⟨by omega, by omega⟩, fun g2 => ?_, no 2 (by decide)⟩, no 1 (by decide)⟩, no 0 (by decide)⟩
  have : a = b := pkN_inj ha hb (fun q hq => by
    match q, hq with
    | 0, _ => exact g0
    | 1, _ => exact g1
    | 2, _ => exact g2)
  rw [if_pos this]
theorem w159n61_0 {d : Nat} {B : aH} {Q : aR → Prop} (hB : a_Can B) (x1 x3 : Int) (s : Nat → Nat → Int32) (l : Nat → Nat → Int64) (w : ((0 ≤ (3 * x1) ∧ (3 * x1) < 102) ∧ ((0 ≤ (3 * x3) ∧ (3 * x3) < 18006) ∧ (((l 61 (3 * x1).toNat) = (l 74 (3 * x3).toNat) → ((0 ≤ ((3 * x1) + 1) ∧ ((3 * x1) + 1) < 102) ∧ ((0 ≤ ((3 * x3) + 1) ∧ ((3 * x3) + 1) < 18006) ∧ (((l 61 ((3 * x1) + 1).toNat) = (l 74 ((3 * x3) + 1).toNat) → ((0 ≤ ((3 * x1) + 2) ∧ ((3 * x1) + 2) < 102) ∧ ((0 ≤ ((3 * x3) + 2) ∧ ((3 * x3) + 2) < 18006) ∧ (((l 61 ((3 * x1) + 2).toNat) = (l 74 ((3 * x3) + 2).toNat) → Q (.inl (some (iv 1)), (mkH B s l))) ∧ ((l 61 ((3 * x1) + 2).toNat) ≠ (l 74 ((3 * x3) + 2).toNat) → Q (.inl (some (iv 0)), (mkH B s l))))))) ∧ ((l 61 ((3 * x1) + 1).toNat) ≠ (l 74 ((3 * x3) + 1).toNat) → Q (.inl (some (iv 0)), (mkH B s l))))))) ∧ ((l 61 (3 * x1).toNat) ≠ (l 74 (3 * x3).toNat) → Q (.inl (some (iv 0)), (mkH B s l))))))) : a_W d 159 0 [.ref 61, iv x1, .ref 74, iv x3] [] (mkH B s l) Q := by
  refine w_aln (p := 1) (q159 0) rfl rfl ?_
  refine w_ic (p := 2) (q159 1) rfl ?_
  refine w_iln (p := 3) (q159 2) rfl rfl ?_
  refine w_mulz (p := 4) (q159 3) rfl ?_
  obtain ⟨o1, w⟩ := w
  refine w_la (p := 5) (q159 4) rfl (r61 hB) (by decide) o1 ?_
  refine w_aln (p := 6) (q159 5) rfl rfl ?_
  refine w_ic (p := 7) (q159 6) rfl ?_
  refine w_iln (p := 8) (q159 7) rfl rfl ?_
  refine w_mulz (p := 9) (q159 8) rfl ?_
  obtain ⟨o2, w⟩ := w
  refine w_la (p := 10) (q159 9) rfl (r74 hB) (by decide) o2 ?_
  refine w_lcmp (p := 11) (q159 10) rfl ?_
  by_cases c3 : (l 61 (3 * x1).toNat) = (l 74 (3 * x3).toNat)
  · replace w := w.1 c3
    refine w_i1f (p := 14) (q159 11) rfl (inR_i32 _) (fun e => e (lc0 c3)) ?_
    refine w_aln (p := 15) (q159 14) rfl rfl ?_
    refine w_ic (p := 16) (q159 15) rfl ?_
    refine w_iln (p := 17) (q159 16) rfl rfl ?_
    refine w_mulz (p := 18) (q159 17) rfl ?_
    refine w_ic (p := 19) (q159 18) rfl ?_
    refine w_add (p := 20) (q159 19) rfl ?_
    obtain ⟨o4, w⟩ := w
    refine w_la (p := 21) (q159 20) rfl (r61 hB) (by decide) o4 ?_
    refine w_aln (p := 22) (q159 21) rfl rfl ?_
    refine w_ic (p := 23) (q159 22) rfl ?_
    refine w_iln (p := 24) (q159 23) rfl rfl ?_
    refine w_mulz (p := 25) (q159 24) rfl ?_
    refine w_ic (p := 26) (q159 25) rfl ?_
    refine w_add (p := 27) (q159 26) rfl ?_
    obtain ⟨o5, w⟩ := w
    refine w_la (p := 28) (q159 27) rfl (r74 hB) (by decide) o5 ?_
    refine w_lcmp (p := 29) (q159 28) rfl ?_
    by_cases c6 : (l 61 ((3 * x1) + 1).toNat) = (l 74 ((3 * x3) + 1).toNat)
    · replace w := w.1 c6
      refine w_i1f (p := 32) (q159 29) rfl (inR_i32 _) (fun e => e (lc0 c6)) ?_
      refine w_aln (p := 33) (q159 32) rfl rfl ?_
      refine w_ic (p := 34) (q159 33) rfl ?_
      refine w_iln (p := 35) (q159 34) rfl rfl ?_
      refine w_mulz (p := 36) (q159 35) rfl ?_
      refine w_ic (p := 37) (q159 36) rfl ?_
      refine w_add (p := 38) (q159 37) rfl ?_
      obtain ⟨o7, w⟩ := w
      refine w_la (p := 39) (q159 38) rfl (r61 hB) (by decide) o7 ?_
      refine w_aln (p := 40) (q159 39) rfl rfl ?_
      refine w_ic (p := 41) (q159 40) rfl ?_
      refine w_iln (p := 42) (q159 41) rfl rfl ?_
      refine w_mulz (p := 43) (q159 42) rfl ?_
      refine w_ic (p := 44) (q159 43) rfl ?_
      refine w_add (p := 45) (q159 44) rfl ?_
      obtain ⟨o8, w⟩ := w
      refine w_la (p := 46) (q159 45) rfl (r74 hB) (by decide) o8 ?_
      refine w_lcmp (p := 47) (q159 46) rfl ?_
      by_cases c9 : (l 61 ((3 * x1) + 2).toNat) = (l 74 ((3 * x3) + 2).toNat)
      · replace w := w.1 c9
        refine w_i1f (p := 50) (q159 47) rfl (inR_i32 _) (fun e => e (lc0 c9)) ?_
        refine w_ic (p := 51) (q159 50) rfl ?_
        refine w_goto (q159 51) ?_
        exact w_ret (q159 55) rfl w
      · replace w := w.2 c9
        refine w_i1t (q159 47) (inR_i32 _) (lc1 c9) ?_
        refine w_ic (p := 55) (q159 54) rfl ?_
        exact w_ret (q159 55) rfl w
    · replace w := w.2 c6
      refine w_i1t (q159 29) (inR_i32 _) (lc1 c6) ?_
      refine w_ic (p := 55) (q159 54) rfl ?_
      exact w_ret (q159 55) rfl w
  · replace w := w.2 c3
    refine w_i1t (q159 11) (inR_i32 _) (lc1 c3) ?_
    refine w_ic (p := 55) (q159 54) rfl ?_
    exact w_ret (q159 55) rfl w
theorem m_alike61 {d : Nat} {B : aH} (hB : a_Can B) (s : aZ) (l : aZL) (i j : Nat) (hi : i < 34) (hj : j < 6002) (a b : List Int) (ha : VN a) (hb : VN b) (h1 : LN l 61 i a) (h2 : LN l 74 j b) : a_W d 159 0 [.ref 61, iv (i : Int), .ref 74, iv (j : Int)] [] (mkH B s l) (fun q => q = (.inl (some (iv (if a = b then 1 else 0))), mkH B s l)) := by
  have e0 : (3 * (i : Int)).toNat = 3 * i + 0 := by omega
  have e1 : (3 * (i : Int) + 1).toNat = 3 * i + 1 := by omega
  have e2 : (3 * (i : Int) + 2).toNat = 3 * i + 2 := by omega
  have f0 : (3 * (j : Int)).toNat = 3 * j + 0 := by omega
  have f1 : (3 * (j : Int) + 1).toNat = 3 * j + 1 := by omega
  have f2 : (3 * (j : Int) + 2).toNat = 3 * j + 2 := by omega
  have no : ∀ q, q < 3 → pkN a q ≠ pkN b q → ((Sum.inl (some (iv 0)), mkH B s l) : aR) = (.inl (some (iv (if a = b then 1 else 0))), mkH B s l) := by
    intro q _ h
    rw [if_neg (fun e => h (by rw [e]))]
  refine w159n61_0 hB _ _ s l ⟨⟨by omega, by omega⟩, ⟨by omega, by omega⟩, ?_⟩
  rw [e0, e1, e2, f0, f1, f2, h1 0 (by decide), h1 1 (by decide), h1 2 (by decide), h2 0 (by decide), h2 1 (by decide), h2 2 (by decide)]
  refine ⟨fun g0 => ⟨⟨by omega, by omega⟩, ⟨by omega, by omega⟩, fun g1 => ⟨⟨by omega, by omega⟩, ⟨by omega, by omega⟩, fun g2 => ?_, no 2 (by decide)⟩, no 1 (by decide)⟩, no 0 (by decide)⟩
  have : a = b := pkN_inj ha hb (fun q hq => by
    match q, hq with
    | 0, _ => exact g0
    | 1, _ => exact g1
    | 2, _ => exact g2)
  rw [if_pos this]
theorem w159n58_0 {d : Nat} {B : aH} {Q : aR → Prop} (hB : a_Can B) (x1 x3 : Int) (s : Nat → Nat → Int32) (l : Nat → Nat → Int64) (w : ((0 ≤ (3 * x1) ∧ (3 * x1) < 336) ∧ ((0 ≤ (3 * x3) ∧ (3 * x3) < 18006) ∧ (((l 58 (3 * x1).toNat) = (l 74 (3 * x3).toNat) → ((0 ≤ ((3 * x1) + 1) ∧ ((3 * x1) + 1) < 336) ∧ ((0 ≤ ((3 * x3) + 1) ∧ ((3 * x3) + 1) < 18006) ∧ (((l 58 ((3 * x1) + 1).toNat) = (l 74 ((3 * x3) + 1).toNat) → ((0 ≤ ((3 * x1) + 2) ∧ ((3 * x1) + 2) < 336) ∧ ((0 ≤ ((3 * x3) + 2) ∧ ((3 * x3) + 2) < 18006) ∧ (((l 58 ((3 * x1) + 2).toNat) = (l 74 ((3 * x3) + 2).toNat) → Q (.inl (some (iv 1)), (mkH B s l))) ∧ ((l 58 ((3 * x1) + 2).toNat) ≠ (l 74 ((3 * x3) + 2).toNat) → Q (.inl (some (iv 0)), (mkH B s l))))))) ∧ ((l 58 ((3 * x1) + 1).toNat) ≠ (l 74 ((3 * x3) + 1).toNat) → Q (.inl (some (iv 0)), (mkH B s l))))))) ∧ ((l 58 (3 * x1).toNat) ≠ (l 74 (3 * x3).toNat) → Q (.inl (some (iv 0)), (mkH B s l))))))) : a_W d 159 0 [.ref 58, iv x1, .ref 74, iv x3] [] (mkH B s l) Q := by
  refine w_aln (p := 1) (q159 0) rfl rfl ?_
  refine w_ic (p := 2) (q159 1) rfl ?_
  refine w_iln (p := 3) (q159 2) rfl rfl ?_
  refine w_mulz (p := 4) (q159 3) rfl ?_
  obtain ⟨o1, w⟩ := w
  refine w_la (p := 5) (q159 4) rfl (r58 hB) (by decide) o1 ?_
  refine w_aln (p := 6) (q159 5) rfl rfl ?_
  refine w_ic (p := 7) (q159 6) rfl ?_
  refine w_iln (p := 8) (q159 7) rfl rfl ?_
  refine w_mulz (p := 9) (q159 8) rfl ?_
  obtain ⟨o2, w⟩ := w
  refine w_la (p := 10) (q159 9) rfl (r74 hB) (by decide) o2 ?_
  refine w_lcmp (p := 11) (q159 10) rfl ?_
  by_cases c3 : (l 58 (3 * x1).toNat) = (l 74 (3 * x3).toNat)
  · replace w := w.1 c3
    refine w_i1f (p := 14) (q159 11) rfl (inR_i32 _) (fun e => e (lc0 c3)) ?_
    refine w_aln (p := 15) (q159 14) rfl rfl ?_
    refine w_ic (p := 16) (q159 15) rfl ?_
    refine w_iln (p := 17) (q159 16) rfl rfl ?_
    refine w_mulz (p := 18) (q159 17) rfl ?_
    refine w_ic (p := 19) (q159 18) rfl ?_
    refine w_add (p := 20) (q159 19) rfl ?_
    obtain ⟨o4, w⟩ := w
    refine w_la (p := 21) (q159 20) rfl (r58 hB) (by decide) o4 ?_
    refine w_aln (p := 22) (q159 21) rfl rfl ?_
    refine w_ic (p := 23) (q159 22) rfl ?_
    refine w_iln (p := 24) (q159 23) rfl rfl ?_
    refine w_mulz (p := 25) (q159 24) rfl ?_
    refine w_ic (p := 26) (q159 25) rfl ?_
    refine w_add (p := 27) (q159 26) rfl ?_
    obtain ⟨o5, w⟩ := w
    refine w_la (p := 28) (q159 27) rfl (r74 hB) (by decide) o5 ?_
    refine w_lcmp (p := 29) (q159 28) rfl ?_
    by_cases c6 : (l 58 ((3 * x1) + 1).toNat) = (l 74 ((3 * x3) + 1).toNat)
    · replace w := w.1 c6
      refine w_i1f (p := 32) (q159 29) rfl (inR_i32 _) (fun e => e (lc0 c6)) ?_
      refine w_aln (p := 33) (q159 32) rfl rfl ?_
      refine w_ic (p := 34) (q159 33) rfl ?_
      refine w_iln (p := 35) (q159 34) rfl rfl ?_
      refine w_mulz (p := 36) (q159 35) rfl ?_
      refine w_ic (p := 37) (q159 36) rfl ?_
      refine w_add (p := 38) (q159 37) rfl ?_
      obtain ⟨o7, w⟩ := w
      refine w_la (p := 39) (q159 38) rfl (r58 hB) (by decide) o7 ?_
      refine w_aln (p := 40) (q159 39) rfl rfl ?_
      refine w_ic (p := 41) (q159 40) rfl ?_
      refine w_iln (p := 42) (q159 41) rfl rfl ?_
      refine w_mulz (p := 43) (q159 42) rfl ?_
      refine w_ic (p := 44) (q159 43) rfl ?_
      refine w_add (p := 45) (q159 44) rfl ?_
      obtain ⟨o8, w⟩ := w
      refine w_la (p := 46) (q159 45) rfl (r74 hB) (by decide) o8 ?_
      refine w_lcmp (p := 47) (q159 46) rfl ?_
      by_cases c9 : (l 58 ((3 * x1) + 2).toNat) = (l 74 ((3 * x3) + 2).toNat)
      · replace w := w.1 c9
        refine w_i1f (p := 50) (q159 47) rfl (inR_i32 _) (fun e => e (lc0 c9)) ?_
        refine w_ic (p := 51) (q159 50) rfl ?_
        refine w_goto (q159 51) ?_
        exact w_ret (q159 55) rfl w
      · replace w := w.2 c9
        refine w_i1t (q159 47) (inR_i32 _) (lc1 c9) ?_
        refine w_ic (p := 55) (q159 54) rfl ?_
        exact w_ret (q159 55) rfl w
    · replace w := w.2 c6
      refine w_i1t (q159 29) (inR_i32 _) (lc1 c6) ?_
      refine w_ic (p := 55) (q159 54) rfl ?_
      exact w_ret (q159 55) rfl w
  · replace w := w.2 c3
    refine w_i1t (q159 11) (inR_i32 _) (lc1 c3) ?_
    refine w_ic (p := 55) (q159 54) rfl ?_
    exact w_ret (q159 55) rfl w
theorem m_alike58 {d : Nat} {B : aH} (hB : a_Can B) (s : aZ) (l : aZL) (i j : Nat) (hi : i < 112) (hj : j < 6002) (a b : List Int) (ha : VN a) (hb : VN b) (h1 : LN l 58 i a) (h2 : LN l 74 j b) : a_W d 159 0 [.ref 58, iv (i : Int), .ref 74, iv (j : Int)] [] (mkH B s l) (fun q => q = (.inl (some (iv (if a = b then 1 else 0))), mkH B s l)) := by
  have e0 : (3 * (i : Int)).toNat = 3 * i + 0 := by omega
  have e1 : (3 * (i : Int) + 1).toNat = 3 * i + 1 := by omega
  have e2 : (3 * (i : Int) + 2).toNat = 3 * i + 2 := by omega
  have f0 : (3 * (j : Int)).toNat = 3 * j + 0 := by omega
  have f1 : (3 * (j : Int) + 1).toNat = 3 * j + 1 := by omega
  have f2 : (3 * (j : Int) + 2).toNat = 3 * j + 2 := by omega
  have no : ∀ q, q < 3 → pkN a q ≠ pkN b q → ((Sum.inl (some (iv 0)), mkH B s l) : aR) = (.inl (some (iv (if a = b then 1 else 0))), mkH B s l) := by
    intro q _ h
    rw [if_neg (fun e => h (by rw [e]))]
  refine w159n58_0 hB _ _ s l ⟨⟨by omega, by omega⟩, ⟨by omega, by omega⟩, ?_⟩
  rw [e0, e1, e2, f0, f1, f2, h1 0 (by decide), h1 1 (by decide), h1 2 (by decide), h2 0 (by decide), h2 1 (by decide), h2 2 (by decide)]
  refine ⟨fun g0 => ⟨⟨by omega, by omega⟩, ⟨by omega, by omega⟩, fun g1 => ⟨⟨by omega, by omega⟩, ⟨by omega, by omega⟩, fun g2 => ?_, no 2 (by decide)⟩, no 1 (by decide)⟩, no 0 (by decide)⟩
  have : a = b := pkN_inj ha hb (fun q hq => by
    match q, hq with
    | 0, _ => exact g0
    | 1, _ => exact g1
    | 2, _ => exact g2)
  rw [if_pos this]
theorem w159n74_0 {d : Nat} {B : aH} {Q : aR → Prop} (hB : a_Can B) (x1 x3 : Int) (s : Nat → Nat → Int32) (l : Nat → Nat → Int64) (w : ((0 ≤ (3 * x1) ∧ (3 * x1) < 18006) ∧ ((0 ≤ (3 * x3) ∧ (3 * x3) < 18006) ∧ (((l 74 (3 * x1).toNat) = (l 74 (3 * x3).toNat) → ((0 ≤ ((3 * x1) + 1) ∧ ((3 * x1) + 1) < 18006) ∧ ((0 ≤ ((3 * x3) + 1) ∧ ((3 * x3) + 1) < 18006) ∧ (((l 74 ((3 * x1) + 1).toNat) = (l 74 ((3 * x3) + 1).toNat) → ((0 ≤ ((3 * x1) + 2) ∧ ((3 * x1) + 2) < 18006) ∧ ((0 ≤ ((3 * x3) + 2) ∧ ((3 * x3) + 2) < 18006) ∧ (((l 74 ((3 * x1) + 2).toNat) = (l 74 ((3 * x3) + 2).toNat) → Q (.inl (some (iv 1)), (mkH B s l))) ∧ ((l 74 ((3 * x1) + 2).toNat) ≠ (l 74 ((3 * x3) + 2).toNat) → Q (.inl (some (iv 0)), (mkH B s l))))))) ∧ ((l 74 ((3 * x1) + 1).toNat) ≠ (l 74 ((3 * x3) + 1).toNat) → Q (.inl (some (iv 0)), (mkH B s l))))))) ∧ ((l 74 (3 * x1).toNat) ≠ (l 74 (3 * x3).toNat) → Q (.inl (some (iv 0)), (mkH B s l))))))) : a_W d 159 0 [.ref 74, iv x1, .ref 74, iv x3] [] (mkH B s l) Q := by
  refine w_aln (p := 1) (q159 0) rfl rfl ?_
  refine w_ic (p := 2) (q159 1) rfl ?_
  refine w_iln (p := 3) (q159 2) rfl rfl ?_
  refine w_mulz (p := 4) (q159 3) rfl ?_
  obtain ⟨o1, w⟩ := w
  refine w_la (p := 5) (q159 4) rfl (r74 hB) (by decide) o1 ?_
  refine w_aln (p := 6) (q159 5) rfl rfl ?_
  refine w_ic (p := 7) (q159 6) rfl ?_
  refine w_iln (p := 8) (q159 7) rfl rfl ?_
  refine w_mulz (p := 9) (q159 8) rfl ?_
  obtain ⟨o2, w⟩ := w
  refine w_la (p := 10) (q159 9) rfl (r74 hB) (by decide) o2 ?_
  refine w_lcmp (p := 11) (q159 10) rfl ?_
  by_cases c3 : (l 74 (3 * x1).toNat) = (l 74 (3 * x3).toNat)
  · replace w := w.1 c3
    refine w_i1f (p := 14) (q159 11) rfl (inR_i32 _) (fun e => e (lc0 c3)) ?_
    refine w_aln (p := 15) (q159 14) rfl rfl ?_
    refine w_ic (p := 16) (q159 15) rfl ?_
    refine w_iln (p := 17) (q159 16) rfl rfl ?_
    refine w_mulz (p := 18) (q159 17) rfl ?_
    refine w_ic (p := 19) (q159 18) rfl ?_
    refine w_add (p := 20) (q159 19) rfl ?_
    obtain ⟨o4, w⟩ := w
    refine w_la (p := 21) (q159 20) rfl (r74 hB) (by decide) o4 ?_
    refine w_aln (p := 22) (q159 21) rfl rfl ?_
    refine w_ic (p := 23) (q159 22) rfl ?_
    refine w_iln (p := 24) (q159 23) rfl rfl ?_
    refine w_mulz (p := 25) (q159 24) rfl ?_
    refine w_ic (p := 26) (q159 25) rfl ?_
    refine w_add (p := 27) (q159 26) rfl ?_
    obtain ⟨o5, w⟩ := w
    refine w_la (p := 28) (q159 27) rfl (r74 hB) (by decide) o5 ?_
    refine w_lcmp (p := 29) (q159 28) rfl ?_
    by_cases c6 : (l 74 ((3 * x1) + 1).toNat) = (l 74 ((3 * x3) + 1).toNat)
    · replace w := w.1 c6
      refine w_i1f (p := 32) (q159 29) rfl (inR_i32 _) (fun e => e (lc0 c6)) ?_
      refine w_aln (p := 33) (q159 32) rfl rfl ?_
      refine w_ic (p := 34) (q159 33) rfl ?_
      refine w_iln (p := 35) (q159 34) rfl rfl ?_
      refine w_mulz (p := 36) (q159 35) rfl ?_
      refine w_ic (p := 37) (q159 36) rfl ?_
      refine w_add (p := 38) (q159 37) rfl ?_
      obtain ⟨o7, w⟩ := w
      refine w_la (p := 39) (q159 38) rfl (r74 hB) (by decide) o7 ?_
      refine w_aln (p := 40) (q159 39) rfl rfl ?_
      refine w_ic (p := 41) (q159 40) rfl ?_
      refine w_iln (p := 42) (q159 41) rfl rfl ?_
      refine w_mulz (p := 43) (q159 42) rfl ?_
      refine w_ic (p := 44) (q159 43) rfl ?_
      refine w_add (p := 45) (q159 44) rfl ?_
      obtain ⟨o8, w⟩ := w
      refine w_la (p := 46) (q159 45) rfl (r74 hB) (by decide) o8 ?_
      refine w_lcmp (p := 47) (q159 46) rfl ?_
      by_cases c9 : (l 74 ((3 * x1) + 2).toNat) = (l 74 ((3 * x3) + 2).toNat)
      · replace w := w.1 c9
        refine w_i1f (p := 50) (q159 47) rfl (inR_i32 _) (fun e => e (lc0 c9)) ?_
        refine w_ic (p := 51) (q159 50) rfl ?_
        refine w_goto (q159 51) ?_
        exact w_ret (q159 55) rfl w
      · replace w := w.2 c9
        refine w_i1t (q159 47) (inR_i32 _) (lc1 c9) ?_
        refine w_ic (p := 55) (q159 54) rfl ?_
        exact w_ret (q159 55) rfl w
    · replace w := w.2 c6
      refine w_i1t (q159 29) (inR_i32 _) (lc1 c6) ?_
      refine w_ic (p := 55) (q159 54) rfl ?_
      exact w_ret (q159 55) rfl w
  · replace w := w.2 c3
    refine w_i1t (q159 11) (inR_i32 _) (lc1 c3) ?_
    refine w_ic (p := 55) (q159 54) rfl ?_
    exact w_ret (q159 55) rfl w
theorem m_alike74 {d : Nat} {B : aH} (hB : a_Can B) (s : aZ) (l : aZL) (i j : Nat) (hi : i < 6002) (hj : j < 6002) (a b : List Int) (ha : VN a) (hb : VN b) (h1 : LN l 74 i a) (h2 : LN l 74 j b) : a_W d 159 0 [.ref 74, iv (i : Int), .ref 74, iv (j : Int)] [] (mkH B s l) (fun q => q = (.inl (some (iv (if a = b then 1 else 0))), mkH B s l)) := by
  have e0 : (3 * (i : Int)).toNat = 3 * i + 0 := by omega
  have e1 : (3 * (i : Int) + 1).toNat = 3 * i + 1 := by omega
  have e2 : (3 * (i : Int) + 2).toNat = 3 * i + 2 := by omega
  have f0 : (3 * (j : Int)).toNat = 3 * j + 0 := by omega
  have f1 : (3 * (j : Int) + 1).toNat = 3 * j + 1 := by omega
  have f2 : (3 * (j : Int) + 2).toNat = 3 * j + 2 := by omega
  have no : ∀ q, q < 3 → pkN a q ≠ pkN b q → ((Sum.inl (some (iv 0)), mkH B s l) : aR) = (.inl (some (iv (if a = b then 1 else 0))), mkH B s l) := by
    intro q _ h
    rw [if_neg (fun e => h (by rw [e]))]
  refine w159n74_0 hB _ _ s l ⟨⟨by omega, by omega⟩, ⟨by omega, by omega⟩, ?_⟩
  rw [e0, e1, e2, f0, f1, f2, h1 0 (by decide), h1 1 (by decide), h1 2 (by decide), h2 0 (by decide), h2 1 (by decide), h2 2 (by decide)]
  refine ⟨fun g0 => ⟨⟨by omega, by omega⟩, ⟨by omega, by omega⟩, fun g1 => ⟨⟨by omega, by omega⟩, ⟨by omega, by omega⟩, fun g2 => ?_, no 2 (by decide)⟩, no 1 (by decide)⟩, no 0 (by decide)⟩
  have : a = b := pkN_inj ha hb (fun q hq => by
    match q, hq with
    | 0, _ => exact g0
    | 1, _ => exact g1
    | 2, _ => exact g2)
  rw [if_pos this]
theorem w158n63_0 {d : Nat} {B : aH} {Q : aR → Prop} (hB : a_Can B) (x1 x3 : Int) (s : Nat → Nat → Int32) (l : Nat → Nat → Int64) (w : a_W d 158 3 [.ref 63, iv x1, .ref 74, iv x3, iv 0] [] (mkH B s l) Q) : a_W d 158 0 [.ref 63, iv x1, .ref 74, iv x3, .retAddr 0] [] (mkH B s l) Q := by
  refine w_ic (p := 1) (q158 0) rfl ?_
  refine w_is (p := 3) (ls' := [.ref 63, iv x1, .ref 74, iv x3, iv 0]) (q158 1) rfl (Nat.le_of_ble_eq_true rfl) rfl ?_
  exact w
theorem w158n63_3 {d : Nat} {B : aH} {Q : aR → Prop} (hB : a_Can B) (hd : 1 ≤ d) (x1 x3 x4 : Int) (s : Nat → Nat → Int32) (l : Nat → Nat → Int64) (w : (inR x4 ∧ inR x1 ∧ ((x1 ≤ x4 → Q (.inl (some (iv (-1))), (mkH B s l))) ∧ (x4 < x1 → a_W (d - 1) 159 0 [.ref 63, iv x4, .ref 74, iv x3] [] (mkH B s l) (fun r => ∃ (v6 : Int) (s4 : Nat → Nat → Int32) (l5 : Nat → Nat → Int64), r = (.inl (some (iv v6)), mkH B s4 l5) ∧ (inR v6 ∧ ((v6 = 0 → a_W d 158 3 [.ref 63, iv x1, .ref 74, iv x3, iv (x4 + 1)] [] (mkH B s4 l5) Q) ∧ (v6 ≠ 0 → Q (.inl (some (iv x4)), (mkH B s4 l5)))))))))) : a_W d 158 3 [.ref 63, iv x1, .ref 74, iv x3, iv x4] [] (mkH B s l) Q := by
  refine w_il (p := 5) (q158 3) rfl rfl ?_
  refine w_iln (p := 6) (q158 5) rfl rfl ?_
  obtain ⟨h1, w⟩ := w
  obtain ⟨h2, w⟩ := w
  by_cases c3 : x1 ≤ x4
  · replace w := w.1 c3
    refine w_i2t (q158 6) h1 h2 c3 ?_
    refine w_ic (p := 30) (q158 29) rfl ?_
    exact w_ret (q158 30) rfl w
  · replace w := w.2 (Int.not_le.mp c3)
    refine w_i2f (p := 9) (q158 6) rfl h1 h2 c3 ?_
    refine w_aln (p := 10) (q158 9) rfl rfl ?_
    refine w_il (p := 12) (q158 10) rfl rfl ?_
    refine w_aln (p := 13) (q158 12) rfl rfl ?_
    refine w_iln (p := 14) (q158 13) rfl rfl ?_
    refine w_call (st := []) (as := [.ref 63, iv x4, .ref 74, iv x3]) (as' := [iv x3, .ref 74, iv x4, .ref 63]) (p := 17) (q158 14) rfl m159 (by decide) (a_ok_s rfl rfl) rfl rfl (Nat.le_of_ble_eq_true rfl) (by omega) rfl rfl (a_W.imp w ?_)
    rintro _ ⟨v6, s4, l5, rfl, w⟩
    refine ⟨some (iv v6), _, rfl, ?_⟩
    show a_W _ 158 17 [.ref 63, iv x1, .ref 74, iv x3, iv x4] [iv v6] (mkH B s4 l5) _
    obtain ⟨h7, w⟩ := w
    by_cases c8 : v6 = 0
    · replace w := w.1 c8
      refine w_i1t (q158 17) h7 c8 ?_
      refine w_inc (p := 26) (ls' := [.ref 63, iv x1, .ref 74, iv x3, iv (x4 + 1)]) (q158 23) rfl rfl rfl ?_
      refine w_goto (q158 26) ?_
      exact w
    · replace w := w.2 c8
      refine w_i1f (p := 20) (q158 17) rfl h7 c8 ?_
      refine w_il (p := 22) (q158 20) rfl rfl ?_
      exact w_ret (q158 22) rfl w
theorem w160n63_0 {d : Nat} {B : aH} {Q : aR → Prop} (hB : a_Can B) (x1 x3 : Int) (s : Nat → Nat → Int32) (l : Nat → Nat → Int64) (w : a_W d 160 3 [.ref 63, iv x1, .ref 74, iv x3, iv 0] [] (mkH B s l) Q) : a_W d 160 0 [.ref 63, iv x1, .ref 74, iv x3, .retAddr 0] [] (mkH B s l) Q := by
  refine w_ic (p := 1) (q160 0) rfl ?_
  refine w_is (p := 3) (ls' := [.ref 63, iv x1, .ref 74, iv x3, iv 0]) (q160 1) rfl (Nat.le_of_ble_eq_true rfl) rfl ?_
  exact w
theorem w160n63_3 {d : Nat} {B : aH} {Q : aR → Prop} (hB : a_Can B) (x1 x3 x4 : Int) (s : Nat → Nat → Int32) (l : Nat → Nat → Int64) (w : (inR x4 ∧ ((3 ≤ x4 → Q (.inl none, (mkH B s l))) ∧ (x4 < 3 → ((0 ≤ ((3 * x3) + x4) ∧ ((3 * x3) + x4) < 18006) ∧ ((0 ≤ ((3 * x1) + x4) ∧ ((3 * x1) + x4) < 55200) ∧ a_W d 160 3 [.ref 63, iv x1, .ref 74, iv x3, iv (x4 + 1)] [] (mkH B s (a_up l 63 ((3 * x1) + x4).toNat (l 74 ((3 * x3) + x4).toNat))) Q)))))) : a_W d 160 3 [.ref 63, iv x1, .ref 74, iv x3, iv x4] [] (mkH B s l) Q := by
  refine w_il (p := 5) (q160 3) rfl rfl ?_
  refine w_ic (p := 6) (q160 5) rfl ?_
  obtain ⟨h1, w⟩ := w
  by_cases c2 : 3 ≤ x4
  · replace w := w.1 c2
    refine w_i2t (q160 6) h1 (by decide) c2 ?_
    exact w_rv (q160 31) rfl w
  · replace w := w.2 (Int.not_le.mp c2)
    refine w_i2f (p := 9) (q160 6) rfl h1 (by decide) c2 ?_
    refine w_aln (p := 10) (q160 9) rfl rfl ?_
    refine w_ic (p := 11) (q160 10) rfl ?_
    refine w_iln (p := 12) (q160 11) rfl rfl ?_
    refine w_mulz (p := 13) (q160 12) rfl ?_
    refine w_il (p := 15) (q160 13) rfl rfl ?_
    refine w_add (p := 16) (q160 15) rfl ?_
    refine w_aln (p := 17) (q160 16) rfl rfl ?_
    refine w_ic (p := 18) (q160 17) rfl ?_
    refine w_iln (p := 19) (q160 18) rfl rfl ?_
    refine w_mulz (p := 20) (q160 19) rfl ?_
    refine w_il (p := 22) (q160 20) rfl rfl ?_
    refine w_add (p := 23) (q160 22) rfl ?_
    obtain ⟨o3, w⟩ := w
    refine w_la (p := 24) (q160 23) rfl (r74 hB) (by decide) o3 ?_
    obtain ⟨o4, w⟩ := w
    refine w_las (p := 25) (q160 24) rfl (r63 hB) (by decide) o4 ?_
    refine w_inc (p := 28) (ls' := [.ref 63, iv x1, .ref 74, iv x3, iv (x4 + 1)]) (q160 25) rfl rfl rfl ?_
    refine w_goto (q160 28) ?_
    exact w
theorem m_find_loop63 {d : Nat} {B : aH} (hB : a_Can B) (hd : 1 ≤ d) (s : aZ) (l : aZL) (ns : List (List Int)) (hn : ns.length ≤ 18400) (hv : ∀ i, i < ns.length → VN (ns.getD i []) ∧ LN l 63 i (ns.getD i [])) (j : Nat) (hj : j < 6002) (nm : List Int) (hb : VN nm) (h2 : LN l 74 j nm) : ∀ k i, i + k = ns.length → a_W d 158 3 [.ref 63, iv (ns.length : Int), .ref 74, iv (j : Int), iv (i : Int)] [] (mkH B s l) (fun q => q = (.inl (some (iv (ffd ns nm k i))), mkH B s l)) := by
  intro k
  induction k with
  | zero =>
    intro i hi
    exact w158n63_3 hB (by omega) _ _ _ s l ⟨⟨by omega, by omega⟩, ⟨by omega, by omega⟩, fun _ => rfl, fun h => absurd h (by omega)⟩
  | succ k ih =>
    intro i hi
    obtain ⟨v1, v2⟩ := hv i (by omega)
    refine w158n63_3 hB (by omega) _ _ _ s l ⟨⟨by omega, by omega⟩, ⟨by omega, by omega⟩, fun h => absurd h (by omega), fun _ => ?_⟩
    refine a_W.imp (m_alike63 hB s l i j (by omega) hj _ nm v1 hb v2 h2) ?_
    rintro _ rfl
    refine ⟨_, s, l, rfl, ?_⟩
    unfold ffd
    by_cases h : ns.getD i [] = nm
    · rw [if_pos h, if_pos h]
      exact ⟨by decide, fun h => absurd h (by decide), fun _ => rfl⟩
    · rw [if_neg h, if_neg h, show (i : Int) + 1 = ((i + 1 : Nat) : Int) by omega]
      exact ⟨by decide, fun _ => ih (i + 1) (by omega), fun h => absurd rfl h⟩
theorem m_find63 {d : Nat} {B : aH} (hB : a_Can B) (hd : 1 ≤ d) (s : aZ) (l : aZL) (ns : List (List Int)) (hn : ns.length ≤ 18400) (hv : ∀ i, i < ns.length → VN (ns.getD i []) ∧ LN l 63 i (ns.getD i [])) (j : Nat) (hj : j < 6002) (nm : List Int) (hb : VN nm) (h2 : LN l 74 j nm) : a_W d 158 0 [.ref 63, iv (ns.length : Int), .ref 74, iv (j : Int), .retAddr 0] [] (mkH B s l) (fun q => q = (.inl (some (iv (ffd ns nm ns.length 0))), mkH B s l)) :=
  w158n63_0 hB _ _ s l (m_find_loop63 hB hd s l ns hn hv j hj nm hb h2 ns.length 0 (by omega))
theorem m_write63 {d : Nat} {B : aH} (hB : a_Can B) (s : aZ) (l : aZL) (i j : Nat) (hi : i < 18400) (hj : j < 6002) : a_W d 160 0 [.ref 63, iv (i : Int), .ref 74, iv (j : Int), .retAddr 0] [] (mkH B s l) (fun q => ∃ l2, q = (.inl none, mkH B s l2) ∧ (∀ q, q < 3 → l2 63 (3 * i + q) = l 74 (3 * j + q)) ∧ (∀ r, ¬ (3 * i ≤ r ∧ r < 3 * i + 3) → l2 63 r = l 63 r) ∧ ∀ k, k ≠ 63 → l2 k = l k) := by
  have loop : ∀ (k q : Nat) (l2 : aZL), q + k = 3 → (∀ r, r < q → l2 63 (3 * i + r) = l 74 (3 * j + r)) → (∀ r, ¬ (3 * i ≤ r ∧ r < 3 * i + q) → l2 63 r = l 63 r) → (∀ k, k ≠ 63 → l2 k = l k) → a_W d 160 3 [.ref 63, iv (i : Int), .ref 74, iv (j : Int), iv (q : Int)] [] (mkH B s l2) (fun q => ∃ l2, q = (.inl none, mkH B s l2) ∧ (∀ q, q < 3 → l2 63 (3 * i + q) = l 74 (3 * j + q)) ∧ (∀ r, ¬ (3 * i ≤ r ∧ r < 3 * i + 3) → l2 63 r = l 63 r) ∧ ∀ k, k ≠ 63 → l2 k = l k) := by
    intro k
    induction k with
    | zero =>
      intro q l2 hq k1 k2 k3
      have hq3 : q = 3 := by omega
      subst hq3
      exact w160n63_3 hB _ _ _ s l2 ⟨⟨by omega, by omega⟩, fun _ => ⟨l2, rfl, k1, k2, k3⟩, fun h => absurd h (by omega)⟩
    | succ k ih =>
      intro q l2 hq k1 k2 k3
      refine w160n63_3 hB _ _ _ s l2 ⟨⟨by omega, by omega⟩, fun h => absurd h (by omega), fun _ => ⟨⟨by omega, by omega⟩, ⟨by omega, by omega⟩, ?_⟩⟩
      rw [show (3 * (i : Int) + (q : Int)).toNat = 3 * i + q by omega, show (3 * (j : Int) + (q : Int)).toNat = 3 * j + q by omega, show (q : Int) + 1 = ((q + 1 : Nat) : Int) by omega, k3 74 (by decide)]
      refine ih (q + 1) _ (by omega) (fun r hr => ?_) (fun r hr => ?_) (fun k hk => ?_)
      · unfold a_up
        rw [if_pos rfl]
        by_cases e : r = q
        · rw [e, if_pos rfl]
        · rw [if_neg (by omega)]
          exact k1 r (by omega)
      · unfold a_up
        rw [if_pos rfl, if_neg (by omega)]
        exact k2 r (by omega)
      · unfold a_up
        rw [if_neg hk]
        exact k3 k hk
  exact w160n63_0 hB _ _ s l (loop 3 0 l rfl (fun r hr => absurd hr (Nat.not_lt_zero _)) (fun _ _ => rfl) (fun _ _ => rfl))
theorem w158n61_0 {d : Nat} {B : aH} {Q : aR → Prop} (hB : a_Can B) (x1 x3 : Int) (s : Nat → Nat → Int32) (l : Nat → Nat → Int64) (w : a_W d 158 3 [.ref 61, iv x1, .ref 74, iv x3, iv 0] [] (mkH B s l) Q) : a_W d 158 0 [.ref 61, iv x1, .ref 74, iv x3, .retAddr 0] [] (mkH B s l) Q := by
  refine w_ic (p := 1) (q158 0) rfl ?_
  refine w_is (p := 3) (ls' := [.ref 61, iv x1, .ref 74, iv x3, iv 0]) (q158 1) rfl (Nat.le_of_ble_eq_true rfl) rfl ?_
  exact w
theorem w158n61_3 {d : Nat} {B : aH} {Q : aR → Prop} (hB : a_Can B) (hd : 1 ≤ d) (x1 x3 x4 : Int) (s : Nat → Nat → Int32) (l : Nat → Nat → Int64) (w : (inR x4 ∧ inR x1 ∧ ((x1 ≤ x4 → Q (.inl (some (iv (-1))), (mkH B s l))) ∧ (x4 < x1 → a_W (d - 1) 159 0 [.ref 61, iv x4, .ref 74, iv x3] [] (mkH B s l) (fun r => ∃ (v6 : Int) (s4 : Nat → Nat → Int32) (l5 : Nat → Nat → Int64), r = (.inl (some (iv v6)), mkH B s4 l5) ∧ (inR v6 ∧ ((v6 = 0 → a_W d 158 3 [.ref 61, iv x1, .ref 74, iv x3, iv (x4 + 1)] [] (mkH B s4 l5) Q) ∧ (v6 ≠ 0 → Q (.inl (some (iv x4)), (mkH B s4 l5)))))))))) : a_W d 158 3 [.ref 61, iv x1, .ref 74, iv x3, iv x4] [] (mkH B s l) Q := by
  refine w_il (p := 5) (q158 3) rfl rfl ?_
  refine w_iln (p := 6) (q158 5) rfl rfl ?_
  obtain ⟨h1, w⟩ := w
  obtain ⟨h2, w⟩ := w
  by_cases c3 : x1 ≤ x4
  · replace w := w.1 c3
    refine w_i2t (q158 6) h1 h2 c3 ?_
    refine w_ic (p := 30) (q158 29) rfl ?_
    exact w_ret (q158 30) rfl w
  · replace w := w.2 (Int.not_le.mp c3)
    refine w_i2f (p := 9) (q158 6) rfl h1 h2 c3 ?_
    refine w_aln (p := 10) (q158 9) rfl rfl ?_
    refine w_il (p := 12) (q158 10) rfl rfl ?_
    refine w_aln (p := 13) (q158 12) rfl rfl ?_
    refine w_iln (p := 14) (q158 13) rfl rfl ?_
    refine w_call (st := []) (as := [.ref 61, iv x4, .ref 74, iv x3]) (as' := [iv x3, .ref 74, iv x4, .ref 61]) (p := 17) (q158 14) rfl m159 (by decide) (a_ok_s rfl rfl) rfl rfl (Nat.le_of_ble_eq_true rfl) (by omega) rfl rfl (a_W.imp w ?_)
    rintro _ ⟨v6, s4, l5, rfl, w⟩
    refine ⟨some (iv v6), _, rfl, ?_⟩
    show a_W _ 158 17 [.ref 61, iv x1, .ref 74, iv x3, iv x4] [iv v6] (mkH B s4 l5) _
    obtain ⟨h7, w⟩ := w
    by_cases c8 : v6 = 0
    · replace w := w.1 c8
      refine w_i1t (q158 17) h7 c8 ?_
      refine w_inc (p := 26) (ls' := [.ref 61, iv x1, .ref 74, iv x3, iv (x4 + 1)]) (q158 23) rfl rfl rfl ?_
      refine w_goto (q158 26) ?_
      exact w
    · replace w := w.2 c8
      refine w_i1f (p := 20) (q158 17) rfl h7 c8 ?_
      refine w_il (p := 22) (q158 20) rfl rfl ?_
      exact w_ret (q158 22) rfl w
theorem w160n61_0 {d : Nat} {B : aH} {Q : aR → Prop} (hB : a_Can B) (x1 x3 : Int) (s : Nat → Nat → Int32) (l : Nat → Nat → Int64) (w : a_W d 160 3 [.ref 61, iv x1, .ref 74, iv x3, iv 0] [] (mkH B s l) Q) : a_W d 160 0 [.ref 61, iv x1, .ref 74, iv x3, .retAddr 0] [] (mkH B s l) Q := by
  refine w_ic (p := 1) (q160 0) rfl ?_
  refine w_is (p := 3) (ls' := [.ref 61, iv x1, .ref 74, iv x3, iv 0]) (q160 1) rfl (Nat.le_of_ble_eq_true rfl) rfl ?_
  exact w
theorem w160n61_3 {d : Nat} {B : aH} {Q : aR → Prop} (hB : a_Can B) (x1 x3 x4 : Int) (s : Nat → Nat → Int32) (l : Nat → Nat → Int64) (w : (inR x4 ∧ ((3 ≤ x4 → Q (.inl none, (mkH B s l))) ∧ (x4 < 3 → ((0 ≤ ((3 * x3) + x4) ∧ ((3 * x3) + x4) < 18006) ∧ ((0 ≤ ((3 * x1) + x4) ∧ ((3 * x1) + x4) < 102) ∧ a_W d 160 3 [.ref 61, iv x1, .ref 74, iv x3, iv (x4 + 1)] [] (mkH B s (a_up l 61 ((3 * x1) + x4).toNat (l 74 ((3 * x3) + x4).toNat))) Q)))))) : a_W d 160 3 [.ref 61, iv x1, .ref 74, iv x3, iv x4] [] (mkH B s l) Q := by
  refine w_il (p := 5) (q160 3) rfl rfl ?_
  refine w_ic (p := 6) (q160 5) rfl ?_
  obtain ⟨h1, w⟩ := w
  by_cases c2 : 3 ≤ x4
  · replace w := w.1 c2
    refine w_i2t (q160 6) h1 (by decide) c2 ?_
    exact w_rv (q160 31) rfl w
  · replace w := w.2 (Int.not_le.mp c2)
    refine w_i2f (p := 9) (q160 6) rfl h1 (by decide) c2 ?_
    refine w_aln (p := 10) (q160 9) rfl rfl ?_
    refine w_ic (p := 11) (q160 10) rfl ?_
    refine w_iln (p := 12) (q160 11) rfl rfl ?_
    refine w_mulz (p := 13) (q160 12) rfl ?_
    refine w_il (p := 15) (q160 13) rfl rfl ?_
    refine w_add (p := 16) (q160 15) rfl ?_
    refine w_aln (p := 17) (q160 16) rfl rfl ?_
    refine w_ic (p := 18) (q160 17) rfl ?_
    refine w_iln (p := 19) (q160 18) rfl rfl ?_
    refine w_mulz (p := 20) (q160 19) rfl ?_
    refine w_il (p := 22) (q160 20) rfl rfl ?_
    refine w_add (p := 23) (q160 22) rfl ?_
    obtain ⟨o3, w⟩ := w
    refine w_la (p := 24) (q160 23) rfl (r74 hB) (by decide) o3 ?_
    obtain ⟨o4, w⟩ := w
    refine w_las (p := 25) (q160 24) rfl (r61 hB) (by decide) o4 ?_
    refine w_inc (p := 28) (ls' := [.ref 61, iv x1, .ref 74, iv x3, iv (x4 + 1)]) (q160 25) rfl rfl rfl ?_
    refine w_goto (q160 28) ?_
    exact w
theorem m_find_loop61 {d : Nat} {B : aH} (hB : a_Can B) (hd : 1 ≤ d) (s : aZ) (l : aZL) (ns : List (List Int)) (hn : ns.length ≤ 34) (hv : ∀ i, i < ns.length → VN (ns.getD i []) ∧ LN l 61 i (ns.getD i [])) (j : Nat) (hj : j < 6002) (nm : List Int) (hb : VN nm) (h2 : LN l 74 j nm) : ∀ k i, i + k = ns.length → a_W d 158 3 [.ref 61, iv (ns.length : Int), .ref 74, iv (j : Int), iv (i : Int)] [] (mkH B s l) (fun q => q = (.inl (some (iv (ffd ns nm k i))), mkH B s l)) := by
  intro k
  induction k with
  | zero =>
    intro i hi
    exact w158n61_3 hB (by omega) _ _ _ s l ⟨⟨by omega, by omega⟩, ⟨by omega, by omega⟩, fun _ => rfl, fun h => absurd h (by omega)⟩
  | succ k ih =>
    intro i hi
    obtain ⟨v1, v2⟩ := hv i (by omega)
    refine w158n61_3 hB (by omega) _ _ _ s l ⟨⟨by omega, by omega⟩, ⟨by omega, by omega⟩, fun h => absurd h (by omega), fun _ => ?_⟩
    refine a_W.imp (m_alike61 hB s l i j (by omega) hj _ nm v1 hb v2 h2) ?_
    rintro _ rfl
    refine ⟨_, s, l, rfl, ?_⟩
    unfold ffd
    by_cases h : ns.getD i [] = nm
    · rw [if_pos h, if_pos h]
      exact ⟨by decide, fun h => absurd h (by decide), fun _ => rfl⟩
    · rw [if_neg h, if_neg h, show (i : Int) + 1 = ((i + 1 : Nat) : Int) by omega]
      exact ⟨by decide, fun _ => ih (i + 1) (by omega), fun h => absurd rfl h⟩
theorem m_find61 {d : Nat} {B : aH} (hB : a_Can B) (hd : 1 ≤ d) (s : aZ) (l : aZL) (ns : List (List Int)) (hn : ns.length ≤ 34) (hv : ∀ i, i < ns.length → VN (ns.getD i []) ∧ LN l 61 i (ns.getD i [])) (j : Nat) (hj : j < 6002) (nm : List Int) (hb : VN nm) (h2 : LN l 74 j nm) : a_W d 158 0 [.ref 61, iv (ns.length : Int), .ref 74, iv (j : Int), .retAddr 0] [] (mkH B s l) (fun q => q = (.inl (some (iv (ffd ns nm ns.length 0))), mkH B s l)) :=
  w158n61_0 hB _ _ s l (m_find_loop61 hB hd s l ns hn hv j hj nm hb h2 ns.length 0 (by omega))
theorem m_write61 {d : Nat} {B : aH} (hB : a_Can B) (s : aZ) (l : aZL) (i j : Nat) (hi : i < 34) (hj : j < 6002) : a_W d 160 0 [.ref 61, iv (i : Int), .ref 74, iv (j : Int), .retAddr 0] [] (mkH B s l) (fun q => ∃ l2, q = (.inl none, mkH B s l2) ∧ (∀ q, q < 3 → l2 61 (3 * i + q) = l 74 (3 * j + q)) ∧ (∀ r, ¬ (3 * i ≤ r ∧ r < 3 * i + 3) → l2 61 r = l 61 r) ∧ ∀ k, k ≠ 61 → l2 k = l k) := by
  have loop : ∀ (k q : Nat) (l2 : aZL), q + k = 3 → (∀ r, r < q → l2 61 (3 * i + r) = l 74 (3 * j + r)) → (∀ r, ¬ (3 * i ≤ r ∧ r < 3 * i + q) → l2 61 r = l 61 r) → (∀ k, k ≠ 61 → l2 k = l k) → a_W d 160 3 [.ref 61, iv (i : Int), .ref 74, iv (j : Int), iv (q : Int)] [] (mkH B s l2) (fun q => ∃ l2, q = (.inl none, mkH B s l2) ∧ (∀ q, q < 3 → l2 61 (3 * i + q) = l 74 (3 * j + q)) ∧ (∀ r, ¬ (3 * i ≤ r ∧ r < 3 * i + 3) → l2 61 r = l 61 r) ∧ ∀ k, k ≠ 61 → l2 k = l k) := by
    intro k
    induction k with
    | zero =>
      intro q l2 hq k1 k2 k3
      have hq3 : q = 3 := by omega
      subst hq3
      exact w160n61_3 hB _ _ _ s l2 ⟨⟨by omega, by omega⟩, fun _ => ⟨l2, rfl, k1, k2, k3⟩, fun h => absurd h (by omega)⟩
    | succ k ih =>
      intro q l2 hq k1 k2 k3
      refine w160n61_3 hB _ _ _ s l2 ⟨⟨by omega, by omega⟩, fun h => absurd h (by omega), fun _ => ⟨⟨by omega, by omega⟩, ⟨by omega, by omega⟩, ?_⟩⟩
      rw [show (3 * (i : Int) + (q : Int)).toNat = 3 * i + q by omega, show (3 * (j : Int) + (q : Int)).toNat = 3 * j + q by omega, show (q : Int) + 1 = ((q + 1 : Nat) : Int) by omega, k3 74 (by decide)]
      refine ih (q + 1) _ (by omega) (fun r hr => ?_) (fun r hr => ?_) (fun k hk => ?_)
      · unfold a_up
        rw [if_pos rfl]
        by_cases e : r = q
        · rw [e, if_pos rfl]
        · rw [if_neg (by omega)]
          exact k1 r (by omega)
      · unfold a_up
        rw [if_pos rfl, if_neg (by omega)]
        exact k2 r (by omega)
      · unfold a_up
        rw [if_neg hk]
        exact k3 k hk
  exact w160n61_0 hB _ _ s l (loop 3 0 l rfl (fun r hr => absurd hr (Nat.not_lt_zero _)) (fun _ _ => rfl) (fun _ _ => rfl))
theorem w158n58_0 {d : Nat} {B : aH} {Q : aR → Prop} (hB : a_Can B) (x1 x3 : Int) (s : Nat → Nat → Int32) (l : Nat → Nat → Int64) (w : a_W d 158 3 [.ref 58, iv x1, .ref 74, iv x3, iv 0] [] (mkH B s l) Q) : a_W d 158 0 [.ref 58, iv x1, .ref 74, iv x3, .retAddr 0] [] (mkH B s l) Q := by
  refine w_ic (p := 1) (q158 0) rfl ?_
  refine w_is (p := 3) (ls' := [.ref 58, iv x1, .ref 74, iv x3, iv 0]) (q158 1) rfl (Nat.le_of_ble_eq_true rfl) rfl ?_
  exact w
theorem w158n58_3 {d : Nat} {B : aH} {Q : aR → Prop} (hB : a_Can B) (hd : 1 ≤ d) (x1 x3 x4 : Int) (s : Nat → Nat → Int32) (l : Nat → Nat → Int64) (w : (inR x4 ∧ inR x1 ∧ ((x1 ≤ x4 → Q (.inl (some (iv (-1))), (mkH B s l))) ∧ (x4 < x1 → a_W (d - 1) 159 0 [.ref 58, iv x4, .ref 74, iv x3] [] (mkH B s l) (fun r => ∃ (v6 : Int) (s4 : Nat → Nat → Int32) (l5 : Nat → Nat → Int64), r = (.inl (some (iv v6)), mkH B s4 l5) ∧ (inR v6 ∧ ((v6 = 0 → a_W d 158 3 [.ref 58, iv x1, .ref 74, iv x3, iv (x4 + 1)] [] (mkH B s4 l5) Q) ∧ (v6 ≠ 0 → Q (.inl (some (iv x4)), (mkH B s4 l5)))))))))) : a_W d 158 3 [.ref 58, iv x1, .ref 74, iv x3, iv x4] [] (mkH B s l) Q := by
  refine w_il (p := 5) (q158 3) rfl rfl ?_
  refine w_iln (p := 6) (q158 5) rfl rfl ?_
  obtain ⟨h1, w⟩ := w
  obtain ⟨h2, w⟩ := w
  by_cases c3 : x1 ≤ x4
  · replace w := w.1 c3
    refine w_i2t (q158 6) h1 h2 c3 ?_
    refine w_ic (p := 30) (q158 29) rfl ?_
    exact w_ret (q158 30) rfl w
  · replace w := w.2 (Int.not_le.mp c3)
    refine w_i2f (p := 9) (q158 6) rfl h1 h2 c3 ?_
    refine w_aln (p := 10) (q158 9) rfl rfl ?_
    refine w_il (p := 12) (q158 10) rfl rfl ?_
    refine w_aln (p := 13) (q158 12) rfl rfl ?_
    refine w_iln (p := 14) (q158 13) rfl rfl ?_
    refine w_call (st := []) (as := [.ref 58, iv x4, .ref 74, iv x3]) (as' := [iv x3, .ref 74, iv x4, .ref 58]) (p := 17) (q158 14) rfl m159 (by decide) (a_ok_s rfl rfl) rfl rfl (Nat.le_of_ble_eq_true rfl) (by omega) rfl rfl (a_W.imp w ?_)
    rintro _ ⟨v6, s4, l5, rfl, w⟩
    refine ⟨some (iv v6), _, rfl, ?_⟩
    show a_W _ 158 17 [.ref 58, iv x1, .ref 74, iv x3, iv x4] [iv v6] (mkH B s4 l5) _
    obtain ⟨h7, w⟩ := w
    by_cases c8 : v6 = 0
    · replace w := w.1 c8
      refine w_i1t (q158 17) h7 c8 ?_
      refine w_inc (p := 26) (ls' := [.ref 58, iv x1, .ref 74, iv x3, iv (x4 + 1)]) (q158 23) rfl rfl rfl ?_
      refine w_goto (q158 26) ?_
      exact w
    · replace w := w.2 c8
      refine w_i1f (p := 20) (q158 17) rfl h7 c8 ?_
      refine w_il (p := 22) (q158 20) rfl rfl ?_
      exact w_ret (q158 22) rfl w
theorem w160n58_0 {d : Nat} {B : aH} {Q : aR → Prop} (hB : a_Can B) (x1 x3 : Int) (s : Nat → Nat → Int32) (l : Nat → Nat → Int64) (w : a_W d 160 3 [.ref 58, iv x1, .ref 74, iv x3, iv 0] [] (mkH B s l) Q) : a_W d 160 0 [.ref 58, iv x1, .ref 74, iv x3, .retAddr 0] [] (mkH B s l) Q := by
  refine w_ic (p := 1) (q160 0) rfl ?_
  refine w_is (p := 3) (ls' := [.ref 58, iv x1, .ref 74, iv x3, iv 0]) (q160 1) rfl (Nat.le_of_ble_eq_true rfl) rfl ?_
  exact w
theorem w160n58_3 {d : Nat} {B : aH} {Q : aR → Prop} (hB : a_Can B) (x1 x3 x4 : Int) (s : Nat → Nat → Int32) (l : Nat → Nat → Int64) (w : (inR x4 ∧ ((3 ≤ x4 → Q (.inl none, (mkH B s l))) ∧ (x4 < 3 → ((0 ≤ ((3 * x3) + x4) ∧ ((3 * x3) + x4) < 18006) ∧ ((0 ≤ ((3 * x1) + x4) ∧ ((3 * x1) + x4) < 336) ∧ a_W d 160 3 [.ref 58, iv x1, .ref 74, iv x3, iv (x4 + 1)] [] (mkH B s (a_up l 58 ((3 * x1) + x4).toNat (l 74 ((3 * x3) + x4).toNat))) Q)))))) : a_W d 160 3 [.ref 58, iv x1, .ref 74, iv x3, iv x4] [] (mkH B s l) Q := by
  refine w_il (p := 5) (q160 3) rfl rfl ?_
  refine w_ic (p := 6) (q160 5) rfl ?_
  obtain ⟨h1, w⟩ := w
  by_cases c2 : 3 ≤ x4
  · replace w := w.1 c2
    refine w_i2t (q160 6) h1 (by decide) c2 ?_
    exact w_rv (q160 31) rfl w
  · replace w := w.2 (Int.not_le.mp c2)
    refine w_i2f (p := 9) (q160 6) rfl h1 (by decide) c2 ?_
    refine w_aln (p := 10) (q160 9) rfl rfl ?_
    refine w_ic (p := 11) (q160 10) rfl ?_
    refine w_iln (p := 12) (q160 11) rfl rfl ?_
    refine w_mulz (p := 13) (q160 12) rfl ?_
    refine w_il (p := 15) (q160 13) rfl rfl ?_
    refine w_add (p := 16) (q160 15) rfl ?_
    refine w_aln (p := 17) (q160 16) rfl rfl ?_
    refine w_ic (p := 18) (q160 17) rfl ?_
    refine w_iln (p := 19) (q160 18) rfl rfl ?_
    refine w_mulz (p := 20) (q160 19) rfl ?_
    refine w_il (p := 22) (q160 20) rfl rfl ?_
    refine w_add (p := 23) (q160 22) rfl ?_
    obtain ⟨o3, w⟩ := w
    refine w_la (p := 24) (q160 23) rfl (r74 hB) (by decide) o3 ?_
    obtain ⟨o4, w⟩ := w
    refine w_las (p := 25) (q160 24) rfl (r58 hB) (by decide) o4 ?_
    refine w_inc (p := 28) (ls' := [.ref 58, iv x1, .ref 74, iv x3, iv (x4 + 1)]) (q160 25) rfl rfl rfl ?_
    refine w_goto (q160 28) ?_
    exact w
theorem m_find_loop58 {d : Nat} {B : aH} (hB : a_Can B) (hd : 1 ≤ d) (s : aZ) (l : aZL) (ns : List (List Int)) (hn : ns.length ≤ 112) (hv : ∀ i, i < ns.length → VN (ns.getD i []) ∧ LN l 58 i (ns.getD i [])) (j : Nat) (hj : j < 6002) (nm : List Int) (hb : VN nm) (h2 : LN l 74 j nm) : ∀ k i, i + k = ns.length → a_W d 158 3 [.ref 58, iv (ns.length : Int), .ref 74, iv (j : Int), iv (i : Int)] [] (mkH B s l) (fun q => q = (.inl (some (iv (ffd ns nm k i))), mkH B s l)) := by
  intro k
  induction k with
  | zero =>
    intro i hi
    exact w158n58_3 hB (by omega) _ _ _ s l ⟨⟨by omega, by omega⟩, ⟨by omega, by omega⟩, fun _ => rfl, fun h => absurd h (by omega)⟩
  | succ k ih =>
    intro i hi
    obtain ⟨v1, v2⟩ := hv i (by omega)
    refine w158n58_3 hB (by omega) _ _ _ s l ⟨⟨by omega, by omega⟩, ⟨by omega, by omega⟩, fun h => absurd h (by omega), fun _ => ?_⟩
    refine a_W.imp (m_alike58 hB s l i j (by omega) hj _ nm v1 hb v2 h2) ?_
    rintro _ rfl
    refine ⟨_, s, l, rfl, ?_⟩
    unfold ffd
    by_cases h : ns.getD i [] = nm
    · rw [if_pos h, if_pos h]
      exact ⟨by decide, fun h => absurd h (by decide), fun _ => rfl⟩
    · rw [if_neg h, if_neg h, show (i : Int) + 1 = ((i + 1 : Nat) : Int) by omega]
      exact ⟨by decide, fun _ => ih (i + 1) (by omega), fun h => absurd rfl h⟩
theorem m_find58 {d : Nat} {B : aH} (hB : a_Can B) (hd : 1 ≤ d) (s : aZ) (l : aZL) (ns : List (List Int)) (hn : ns.length ≤ 112) (hv : ∀ i, i < ns.length → VN (ns.getD i []) ∧ LN l 58 i (ns.getD i [])) (j : Nat) (hj : j < 6002) (nm : List Int) (hb : VN nm) (h2 : LN l 74 j nm) : a_W d 158 0 [.ref 58, iv (ns.length : Int), .ref 74, iv (j : Int), .retAddr 0] [] (mkH B s l) (fun q => q = (.inl (some (iv (ffd ns nm ns.length 0))), mkH B s l)) :=
  w158n58_0 hB _ _ s l (m_find_loop58 hB hd s l ns hn hv j hj nm hb h2 ns.length 0 (by omega))
theorem m_write58 {d : Nat} {B : aH} (hB : a_Can B) (s : aZ) (l : aZL) (i j : Nat) (hi : i < 112) (hj : j < 6002) : a_W d 160 0 [.ref 58, iv (i : Int), .ref 74, iv (j : Int), .retAddr 0] [] (mkH B s l) (fun q => ∃ l2, q = (.inl none, mkH B s l2) ∧ (∀ q, q < 3 → l2 58 (3 * i + q) = l 74 (3 * j + q)) ∧ (∀ r, ¬ (3 * i ≤ r ∧ r < 3 * i + 3) → l2 58 r = l 58 r) ∧ ∀ k, k ≠ 58 → l2 k = l k) := by
  have loop : ∀ (k q : Nat) (l2 : aZL), q + k = 3 → (∀ r, r < q → l2 58 (3 * i + r) = l 74 (3 * j + r)) → (∀ r, ¬ (3 * i ≤ r ∧ r < 3 * i + q) → l2 58 r = l 58 r) → (∀ k, k ≠ 58 → l2 k = l k) → a_W d 160 3 [.ref 58, iv (i : Int), .ref 74, iv (j : Int), iv (q : Int)] [] (mkH B s l2) (fun q => ∃ l2, q = (.inl none, mkH B s l2) ∧ (∀ q, q < 3 → l2 58 (3 * i + q) = l 74 (3 * j + q)) ∧ (∀ r, ¬ (3 * i ≤ r ∧ r < 3 * i + 3) → l2 58 r = l 58 r) ∧ ∀ k, k ≠ 58 → l2 k = l k) := by
    intro k
    induction k with
    | zero =>
      intro q l2 hq k1 k2 k3
      have hq3 : q = 3 := by omega
      subst hq3
      exact w160n58_3 hB _ _ _ s l2 ⟨⟨by omega, by omega⟩, fun _ => ⟨l2, rfl, k1, k2, k3⟩, fun h => absurd h (by omega)⟩
    | succ k ih =>
      intro q l2 hq k1 k2 k3
      refine w160n58_3 hB _ _ _ s l2 ⟨⟨by omega, by omega⟩, fun h => absurd h (by omega), fun _ => ⟨⟨by omega, by omega⟩, ⟨by omega, by omega⟩, ?_⟩⟩
      rw [show (3 * (i : Int) + (q : Int)).toNat = 3 * i + q by omega, show (3 * (j : Int) + (q : Int)).toNat = 3 * j + q by omega, show (q : Int) + 1 = ((q + 1 : Nat) : Int) by omega, k3 74 (by decide)]
      refine ih (q + 1) _ (by omega) (fun r hr => ?_) (fun r hr => ?_) (fun k hk => ?_)
      · unfold a_up
        rw [if_pos rfl]
        by_cases e : r = q
        · rw [e, if_pos rfl]
        · rw [if_neg (by omega)]
          exact k1 r (by omega)
      · unfold a_up
        rw [if_pos rfl, if_neg (by omega)]
        exact k2 r (by omega)
      · unfold a_up
        rw [if_neg hk]
        exact k3 k hk
  exact w160n58_0 hB _ _ s l (loop 3 0 l rfl (fun r hr => absurd hr (Nat.not_lt_zero _)) (fun _ _ => rfl) (fun _ _ => rfl))
set_option maxRecDepth 10000 in
theorem w154_0 {d : Nat} {B : aH} {Q : aR → Prop} (hB : a_Can B) (x1 : Int) (s : Nat → Nat → Int32) (l : Nat → Nat → Int64) (w : a_W d 154 4 [.ref 56, iv x1, iv x1, iv 0, .retAddr 0, .retAddr 0] [] (mkH B s l) Q) : a_W d 154 0 [.ref 56, iv x1, .retAddr 0, .retAddr 0, .retAddr 0, .retAddr 0] [] (mkH B s l) Q := by
  refine w_iln (p := 1) (q154 0) rfl rfl ?_
  refine w_isn (p := 2) (ls' := [.ref 56, iv x1, iv x1, .retAddr 0, .retAddr 0, .retAddr 0]) (q154 1) rfl (Nat.le_of_ble_eq_true rfl) rfl ?_
  refine w_ic (p := 3) (q154 2) rfl ?_
  refine w_isn (p := 4) (ls' := [.ref 56, iv x1, iv x1, iv 0, .retAddr 0, .retAddr 0]) (q154 3) rfl (Nat.le_of_ble_eq_true rfl) rfl ?_
  exact w
set_option maxRecDepth 10000 in
theorem w154_4 {d : Nat} {B : aH} {Q : aR → Prop} (hB : a_Can B) (x1 x2 x3 : Int) (s : Nat → Nat → Int32) (l : Nat → Nat → Int64) (w : (inR x3 ∧ ((3 ≤ x3 → a_W d 154 29 [.ref 56, iv x1, iv x2, iv x3, .retAddr 0, .retAddr 0] [] (mkH B s l) Q) ∧ (x3 < 3 → ((0 ≤ ((3 * (zz s 56 26)) + x3) ∧ ((3 * (zz s 56 26)) + x3) < 18006) ∧ a_W d 154 4 [.ref 56, iv x1, iv x2, iv (x3 + 1), .retAddr 0, .retAddr 0] [] (mkH B s (a_up l 74 ((3 * (zz s 56 26)) + x3).toNat 0)) Q))))) : a_W d 154 4 [.ref 56, iv x1, iv x2, iv x3, .retAddr 0, .retAddr 0] [] (mkH B s l) Q := by
  refine w_iln (p := 5) (q154 4) rfl rfl ?_
  refine w_ic (p := 6) (q154 5) rfl ?_
  obtain ⟨h1, w⟩ := w
  by_cases c2 : 3 ≤ x3
  · replace w := w.1 c2
    refine w_i2t (q154 6) h1 (by decide) c2 ?_
    exact w
  · replace w := w.2 (Int.not_le.mp c2)
    refine w_i2f (p := 9) (q154 6) rfl h1 (by decide) c2 ?_
    refine w_aln (p := 10) (q154 9) rfl rfl ?_
    refine w_gR (p := 13) (j := 30) (v := 74) (q154 10) rfl (r56 hB) (by decide) (f56_30 hB) ?_
    refine w_ic (p := 14) (q154 13) rfl ?_
    refine w_aln (p := 15) (q154 14) rfl rfl ?_
    refine w_gI (p := 18) (j := 26) (v := (zz s 56 26)) (q154 15) rfl (r56 hB) (by decide) (iv_zz s 56 26) ?_
    refine w_mulz (p := 19) (q154 18) rfl ?_
    refine w_iln (p := 20) (q154 19) rfl rfl ?_
    refine w_add (p := 21) (q154 20) rfl ?_
    refine w_lc0 (p := 22) (q154 21) rfl ?_
    obtain ⟨o3, w⟩ := w
    refine w_las (p := 23) (q154 22) rfl (r74 hB) (by decide) o3 ?_
    refine w_inc (p := 26) (ls' := [.ref 56, iv x1, iv x2, iv (x3 + 1), .retAddr 0, .retAddr 0]) (q154 23) rfl rfl rfl ?_
    refine w_goto (q154 26) ?_
    exact w
set_option maxRecDepth 10000 in
theorem w154_29 {d : Nat} {B : aH} {Q : aR → Prop} (hB : a_Can B) (hd : 1 ≤ d) (x1 x2 x3 : Int) (s : Nat → Nat → Int32) (l : Nat → Nat → Int64) (w : (inR x2 ∧ 0 ≤ x2 ∧ zz s 56 24 ≤ 8000 ∧ (((z153 (mby s x2)) ≠ 0 → a_W d 154 61 [.ref 56, iv x1, iv x2, iv x3, .retAddr 0, .retAddr 0] [] (mkH B s l) Q) ∧ ((z153 (mby s x2)) = 0 → (((z155 (mby s x2)) ≠ 0 → a_W d 154 61 [.ref 56, iv x1, iv x2, iv x3, .retAddr 0, .retAddr 0] [] (mkH B s l) Q) ∧ ((z155 (mby s x2)) = 0 → (((mby s x2) ≠ 39 → (inR (x2 - x1) ∧ (((x2 - x1) ≤ 24 → a_W d 154 113 [.ref 56, iv x1, iv x2, iv x3, .retAddr 0, .retAddr 0] [] (mkH B s l) Q) ∧ (24 < (x2 - x1) → (((zz s 56 22) ≤ 0 → a_W d 154 113 [.ref 56, iv x1, iv x2, iv x3, .retAddr 0, .retAddr 0] [] (mkH B (zu (zu s 56 22 8) 56 23 (zz s 56 25)) l) Q) ∧ (0 < (zz s 56 22) → a_W d 154 113 [.ref 56, iv x1, iv x2, iv x3, .retAddr 0, .retAddr 0] [] (mkH B s l) Q)))))) ∧ ((mby s x2) = 39 → a_W d 154 61 [.ref 56, iv x1, iv x2, iv x3, .retAddr 0, .retAddr 0] [] (mkH B s l) Q)))))))) : a_W d 154 29 [.ref 56, iv x1, iv x2, iv x3, .retAddr 0, .retAddr 0] [] (mkH B s l) Q := by
  refine w_aln (p := 30) (q154 29) rfl rfl ?_
  refine w_iln (p := 31) (q154 30) rfl rfl ?_
  obtain ⟨h1, w⟩ := w
  obtain ⟨o2, w⟩ := w
  obtain ⟨o3, w⟩ := w
  refine w_call (st := []) (as := [.ref 56, iv x2]) (as' := [iv x2, .ref 56]) (p := 34) (q154 31) rfl m151 (by decide) (a_ok_i rfl (r56 hB) rfl) rfl rfl (Nat.le_of_ble_eq_true rfl) (by omega) rfl rfl (a_W.imp (p151 hB x2 s l h1 o2 o3) ?_)
  rintro _ rfl
  refine ⟨_, _, rfl, ?_⟩
  show a_W _ 154 34 [.ref 56, iv x1, iv x2, iv x3, .retAddr 0, .retAddr 0] [iv (mby s x2)] _ _
  refine w_call (st := []) (as := [iv (mby s x2)]) (as' := [iv (mby s x2)]) (p := 37) (q154 34) rfl m153 (by decide) (a_ok_s rfl rfl) rfl rfl (Nat.le_of_ble_eq_true rfl) (by omega) rfl rfl (a_W.imp (p153 hB (mby s x2) _ _ (inR_mby _ _)) ?_)
  rintro _ rfl
  refine ⟨_, _, rfl, ?_⟩
  show a_W _ 154 37 [.ref 56, iv x1, iv x2, iv x3, .retAddr 0, .retAddr 0] [iv (z153 (mby s x2))] _ _
  by_cases c4 : (z153 (mby s x2)) ≠ 0
  · replace w := w.1 c4
    refine w_i1t (q154 37) (inR_z153 _) c4 ?_
    exact w
  · replace w := w.2 (Decidable.not_not.mp c4)
    refine w_i1f (p := 40) (q154 37) rfl (inR_z153 _) c4 ?_
    refine w_aln (p := 41) (q154 40) rfl rfl ?_
    refine w_iln (p := 42) (q154 41) rfl rfl ?_
    refine w_call (st := []) (as := [.ref 56, iv x2]) (as' := [iv x2, .ref 56]) (p := 45) (q154 42) rfl m151 (by decide) (a_ok_i rfl (r56 hB) rfl) rfl rfl (Nat.le_of_ble_eq_true rfl) (by omega) rfl rfl (a_W.imp (p151 hB x2 s l h1 o2 o3) ?_)
    rintro _ rfl
    refine ⟨_, _, rfl, ?_⟩
    show a_W _ 154 45 [.ref 56, iv x1, iv x2, iv x3, .retAddr 0, .retAddr 0] [iv (mby s x2)] _ _
    refine w_call (st := []) (as := [iv (mby s x2)]) (as' := [iv (mby s x2)]) (p := 48) (q154 45) rfl m155 (by decide) (a_ok_s rfl rfl) rfl rfl (Nat.le_of_ble_eq_true rfl) (by omega) rfl rfl (a_W.imp (p155 hB (mby s x2) _ _ (inR_mby _ _)) ?_)
    rintro _ rfl
    refine ⟨_, _, rfl, ?_⟩
    show a_W _ 154 48 [.ref 56, iv x1, iv x2, iv x3, .retAddr 0, .retAddr 0] [iv (z155 (mby s x2))] _ _
    by_cases c5 : (z155 (mby s x2)) ≠ 0
    · replace w := w.1 c5
      refine w_i1t (q154 48) (inR_z155 _) c5 ?_
      exact w
    · replace w := w.2 (Decidable.not_not.mp c5)
      refine w_i1f (p := 51) (q154 48) rfl (inR_z155 _) c5 ?_
      refine w_aln (p := 52) (q154 51) rfl rfl ?_
      refine w_iln (p := 53) (q154 52) rfl rfl ?_
      refine w_call (st := []) (as := [.ref 56, iv x2]) (as' := [iv x2, .ref 56]) (p := 56) (q154 53) rfl m151 (by decide) (a_ok_i rfl (r56 hB) rfl) rfl rfl (Nat.le_of_ble_eq_true rfl) (by omega) rfl rfl (a_W.imp (p151 hB x2 s l h1 o2 o3) ?_)
      rintro _ rfl
      refine ⟨_, _, rfl, ?_⟩
      show a_W _ 154 56 [.ref 56, iv x1, iv x2, iv x3, .retAddr 0, .retAddr 0] [iv (mby s x2)] _ _
      refine w_bp (p := 58) (q154 56) rfl (by decide) ?_
      by_cases c6 : (mby s x2) ≠ 39
      · replace w := w.1 c6
        refine w_i2t (q154 58) (inR_mby _ _) (by decide) c6 ?_
        refine w_iln (p := 96) (q154 95) rfl rfl ?_
        refine w_iln (p := 97) (q154 96) rfl rfl ?_
        refine w_sub (p := 98) (q154 97) rfl ?_
        refine w_bp (p := 100) (q154 98) rfl (by decide) ?_
        obtain ⟨h7, w⟩ := w
        by_cases c8 : (x2 - x1) ≤ 24
        · replace w := w.1 c8
          refine w_i2t (q154 100) h7 (by decide) c8 ?_
          exact w
        · replace w := w.2 (Int.not_le.mp c8)
          refine w_i2f (p := 103) (q154 100) rfl h7 (by decide) c8 ?_
          refine w_aln (p := 104) (q154 103) rfl rfl ?_
          refine w_bp (p := 106) (q154 104) rfl (by decide) ?_
          refine w_aln (p := 107) (q154 106) rfl rfl ?_
          refine w_gI (p := 110) (j := 25) (v := (zz s 56 25)) (q154 107) rfl (r56 hB) (by decide) (iv_zz s 56 25) ?_
          refine w_call (st := []) (as := [.ref 56, iv 8, iv (zz s 56 25)]) (as' := [iv (zz s 56 25), iv 8, .ref 56]) (p := 113) (q154 110) rfl m152 (by decide) (a_ok_i rfl (r56 hB) rfl) rfl rfl (Nat.le_of_ble_eq_true rfl) (by omega) rfl rfl ?_
          refine w_aln (p := 1) (q152 0) rfl rfl ?_
          refine w_gI (p := 4) (j := 22) (v := (zz s 56 22)) (q152 1) rfl (r56 hB) (by decide) (iv_zz s 56 22) ?_
          by_cases c9 : (zz s 56 22) ≤ 0
          · replace w := w.1 c9
            refine w_i1t (q152 4) (inR_zz _ _ _) c9 ?_
            refine w_aln (p := 9) (q152 8) rfl rfl ?_
            refine w_iln (p := 10) (q152 9) rfl rfl ?_
            refine w_pI (p := 13) (j := 22) (q152 10) rfl (r56 hB) (by decide) rfl ?_
            refine w_aln (p := 14) (q152 13) rfl rfl ?_
            refine w_iln (p := 15) (q152 14) rfl rfl ?_
            refine w_pI (p := 18) (j := 23) (q152 15) rfl (r56 hB) (by decide) rfl ?_
            refine w_rv (q152 18) rfl ⟨_, _, rfl, ?_⟩
            show a_W _ 154 113 [.ref 56, iv x1, iv x2, iv x3, .retAddr 0, .retAddr 0] [] _ _
            exact w
          · replace w := w.2 (Int.not_le.mp c9)
            refine w_i1f (p := 7) (q152 4) rfl (inR_zz _ _ _) c9 ?_
            refine w_rv (q152 7) rfl ⟨_, _, rfl, ?_⟩
            show a_W _ 154 113 [.ref 56, iv x1, iv x2, iv x3, .retAddr 0, .retAddr 0] [] _ _
            exact w
      · replace w := w.2 (Decidable.not_not.mp c6)
        refine w_i2f (p := 61) (q154 58) rfl (inR_mby _ _) (by decide) c6 ?_
        exact w
set_option maxRecDepth 10000 in
theorem w154_61 {d : Nat} {B : aH} {Q : aR → Prop} (hB : a_Can B) (hd : 1 ≤ d) (x1 x2 x3 : Int) (s : Nat → Nat → Int32) (l : Nat → Nat → Int64) (w : (inR (x2 - x1) ∧ ((24 ≤ (x2 - x1) → a_W d 154 89 [.ref 56, iv x1, iv x2, iv x3, .retAddr 0, .retAddr 0] [] (mkH B s l) Q) ∧ ((x2 - x1) < 24 → ((0 ≤ x2 ∧ x2 < 8000) ∧ (0 ≤ (x2 - x1) ∧ ((0 ≤ ((3 * (zz s 56 26)) + ((x2 - x1) / 9)) ∧ ((3 * (zz s 56 26)) + ((x2 - x1) / 9)) < 18006) ∧ (0 ≤ (x2 - x1) ∧ a_W d 154 89 [.ref 56, iv x1, iv x2, iv x3, .retAddr 0, .retAddr 0] [] (mkH B s (a_up l 74 ((3 * (zz s 56 26)) + ((x2 - x1) / 9)).toNat ((l 74 ((3 * (zz s 56 26)) + ((x2 - x1) / 9)).toNat) ||| (((Int32.ofInt (zz s 57 x2.toNat)).toInt64) <<< ((Int32.ofInt (7 * ((x2 - x1) % 9))).toInt64 &&& 63))))) Q)))))))) : a_W d 154 61 [.ref 56, iv x1, iv x2, iv x3, .retAddr 0, .retAddr 0] [] (mkH B s l) Q := by
  refine w_iln (p := 62) (q154 61) rfl rfl ?_
  refine w_iln (p := 63) (q154 62) rfl rfl ?_
  refine w_sub (p := 64) (q154 63) rfl ?_
  refine w_bp (p := 66) (q154 64) rfl (by decide) ?_
  obtain ⟨h1, w⟩ := w
  by_cases c2 : 24 ≤ (x2 - x1)
  · replace w := w.1 c2
    refine w_i2t (q154 66) h1 (by decide) c2 ?_
    exact w
  · replace w := w.2 (Int.not_le.mp c2)
    refine w_i2f (p := 69) (q154 66) rfl h1 (by decide) c2 ?_
    refine w_aln (p := 70) (q154 69) rfl rfl ?_
    refine w_gR (p := 73) (j := 30) (v := 74) (q154 70) rfl (r56 hB) (by decide) (f56_30 hB) ?_
    refine w_aln (p := 74) (q154 73) rfl rfl ?_
    refine w_gI (p := 77) (j := 26) (v := (zz s 56 26)) (q154 74) rfl (r56 hB) (by decide) (iv_zz s 56 26) ?_
    refine w_iln (p := 78) (q154 77) rfl rfl ?_
    refine w_iln (p := 79) (q154 78) rfl rfl ?_
    refine w_sub (p := 80) (q154 79) rfl ?_
    refine w_aln (p := 81) (q154 80) rfl rfl ?_
    refine w_gR (p := 84) (j := 1) (v := 57) (q154 81) rfl (r56 hB) (by decide) (f56_1 hB) ?_
    refine w_iln (p := 85) (q154 84) rfl rfl ?_
    obtain ⟨o3, w⟩ := w
    refine w_ia (p := 86) (v := (zz s 57 x2.toNat)) (q154 85) rfl (r57 hB) (by decide) o3 (iv_zz s 57 x2.toNat) ?_
    refine w_call (st := []) (as := [.ref 74, iv (zz s 56 26), iv (x2 - x1), iv (zz s 57 x2.toNat)]) (as' := [iv (zz s 57 x2.toNat), iv (x2 - x1), iv (zz s 56 26), .ref 74]) (p := 89) (q154 86) rfl m140 (by decide) (a_ok_s rfl rfl) rfl rfl (Nat.le_of_ble_eq_true rfl) (by omega) rfl rfl ?_
    refine w_aln (p := 1) (q140 0) rfl rfl ?_
    refine w_ic (p := 2) (q140 1) rfl ?_
    refine w_iln (p := 3) (q140 2) rfl rfl ?_
    refine w_mulz (p := 4) (q140 3) rfl ?_
    refine w_iln (p := 5) (q140 4) rfl rfl ?_
    refine w_bp (p := 7) (q140 5) rfl (by decide) ?_
    obtain ⟨o4, w⟩ := w
    refine w_div (p := 8) (q140 7) rfl h1 o4 (by decide) ?_
    refine w_add (p := 9) (q140 8) rfl ?_
    refine w_dup2 (p := 10) (q140 9) rfl ?_
    obtain ⟨o5, w⟩ := w
    refine w_la (p := 11) (q140 10) rfl (r74 hB) (by decide) o5 ?_
    refine w_iln (p := 12) (q140 11) rfl rfl ?_
    refine w_i2l (p := 13) (q140 12) rfl ?_
    refine w_bp (p := 15) (q140 13) rfl (by decide) ?_
    refine w_iln (p := 16) (q140 15) rfl rfl ?_
    refine w_bp (p := 18) (q140 16) rfl (by decide) ?_
    obtain ⟨o6, w⟩ := w
    refine w_rem (p := 19) (q140 18) rfl h1 o6 (by decide) ?_
    refine w_mulz (p := 20) (q140 19) rfl ?_
    refine w_lshl (p := 21) (q140 20) rfl ?_
    refine w_lor (p := 22) (q140 21) rfl ?_
    refine w_las (p := 23) (q140 22) rfl (r74 hB) (by decide) o5 ?_
    refine w_rv (q140 23) rfl ⟨_, _, rfl, ?_⟩
    show a_W _ 154 89 [.ref 56, iv x1, iv x2, iv x3, .retAddr 0, .retAddr 0] [] _ _
    exact w
set_option maxRecDepth 10000 in
theorem w154_89 {d : Nat} {B : aH} {Q : aR → Prop} (hB : a_Can B) (x1 x2 x3 : Int) (s : Nat → Nat → Int32) (l : Nat → Nat → Int64) (w : a_W d 154 29 [.ref 56, iv x1, iv (x2 + 1), iv x3, .retAddr 0, .retAddr 0] [] (mkH B s l) Q) : a_W d 154 89 [.ref 56, iv x1, iv x2, iv x3, .retAddr 0, .retAddr 0] [] (mkH B s l) Q := by
  refine w_inc (p := 92) (ls' := [.ref 56, iv x1, iv (x2 + 1), iv x3, .retAddr 0, .retAddr 0]) (q154 89) rfl rfl rfl ?_
  refine w_goto (q154 92) ?_
  exact w
set_option maxRecDepth 10000 in
theorem w154_113 {d : Nat} {B : aH} {Q : aR → Prop} (hB : a_Can B) (hd : 1 ≤ d) (x1 x2 x3 : Int) (s : Nat → Nat → Int32) (l : Nat → Nat → Int64) (w : (inR x1 ∧ ((x1 ≠ (zz s 56 25) → a_W d 154 164 [.ref 56, iv x1, iv x2, iv 0, .retAddr 0, .retAddr 0] [] (mkH B s l) Q) ∧ (x1 = (zz s 56 25) → (inR (x2 - x1) ∧ (((x2 - x1) ≠ 2 → a_W d 154 164 [.ref 56, iv x1, iv x2, iv 1, .retAddr 0, .retAddr 0] [] (mkH B s l) Q) ∧ ((x2 - x1) = 2 → a_W (d - 1) 156 0 [.ref 56, iv x1, .ref 1048597, .retAddr 0, .retAddr 0] [] (mkH B s l) (fun r => ∃ (v7 : Int) (s5 : Nat → Nat → Int32) (l6 : Nat → Nat → Int64), r = (.inl (some (iv v7)), mkH B s5 l6) ∧ (inR v7 ∧ ((v7 ≠ 0 → a_W d 154 160 [.ref 56, iv x1, iv x2, iv 1, .retAddr 0, .retAddr 0] [] (mkH B s5 l6) Q) ∧ (v7 = 0 → a_W (d - 1) 156 0 [.ref 56, iv x1, .ref 1048598, .retAddr 0, .retAddr 0] [] (mkH B s5 l6) (fun r => ∃ (v12 : Int) (s10 : Nat → Nat → Int32) (l11 : Nat → Nat → Int64), r = (.inl (some (iv v12)), mkH B s10 l11) ∧ (inR v12 ∧ ((v12 = 0 → a_W d 154 164 [.ref 56, iv x1, iv x2, iv 1, .retAddr 0, .retAddr 0] [] (mkH B s10 l11) Q) ∧ (v12 ≠ 0 → a_W d 154 160 [.ref 56, iv x1, iv x2, iv 1, .retAddr 0, .retAddr 0] [] (mkH B s10 l11) Q))))))))))))))) : a_W d 154 113 [.ref 56, iv x1, iv x2, iv x3, .retAddr 0, .retAddr 0] [] (mkH B s l) Q := by
  refine w_iln (p := 114) (q154 113) rfl rfl ?_
  refine w_aln (p := 115) (q154 114) rfl rfl ?_
  refine w_gI (p := 118) (j := 25) (v := (zz s 56 25)) (q154 115) rfl (r56 hB) (by decide) (iv_zz s 56 25) ?_
  obtain ⟨h1, w⟩ := w
  by_cases c2 : x1 ≠ (zz s 56 25)
  · replace w := w.1 c2
    refine w_i2t (q154 118) h1 (inR_zz _ _ _) c2 ?_
    refine w_ic (p := 126) (q154 125) rfl ?_
    refine w_isn (p := 127) (ls' := [.ref 56, iv x1, iv x2, iv 0, .retAddr 0, .retAddr 0]) (q154 126) rfl (Nat.le_of_ble_eq_true rfl) rfl ?_
    refine w_iln (p := 128) (q154 127) rfl rfl ?_
    refine w_i1t (q154 128) (by decide) (show zc _ _ _ by unfold zc; omega) ?_
    exact w
  · replace w := w.2 (Decidable.not_not.mp c2)
    refine w_i2f (p := 121) (q154 118) rfl h1 (inR_zz _ _ _) c2 ?_
    refine w_ic (p := 122) (q154 121) rfl ?_
    refine w_goto (q154 122) ?_
    refine w_isn (p := 127) (ls' := [.ref 56, iv x1, iv x2, iv 1, .retAddr 0, .retAddr 0]) (q154 126) rfl (Nat.le_of_ble_eq_true rfl) rfl ?_
    refine w_iln (p := 128) (q154 127) rfl rfl ?_
    refine w_i1f (p := 131) (q154 128) rfl (by decide) (show ¬ zc _ _ _ by unfold zc; omega) ?_
    refine w_iln (p := 132) (q154 131) rfl rfl ?_
    refine w_iln (p := 133) (q154 132) rfl rfl ?_
    refine w_sub (p := 134) (q154 133) rfl ?_
    refine w_ic (p := 135) (q154 134) rfl ?_
    obtain ⟨h3, w⟩ := w
    by_cases c4 : (x2 - x1) ≠ 2
    · replace w := w.1 c4
      refine w_i2t (q154 135) h3 (by decide) c4 ?_
      exact w
    · replace w := w.2 (Decidable.not_not.mp c4)
      refine w_i2f (p := 138) (q154 135) rfl h3 (by decide) c4 ?_
      refine w_aln (p := 139) (q154 138) rfl rfl ?_
      refine w_iln (p := 140) (q154 139) rfl rfl ?_
      refine w_ldcws (p := 143) (q154 140) rfl ?_
      refine w_call (st := []) (as := [.ref 56, iv x1, .ref 1048597]) (as' := [.ref 1048597, iv x1, .ref 56]) (p := 146) (q154 143) rfl m156 (by decide) (a_ok_i rfl (r56 hB) rfl) rfl rfl (Nat.le_of_ble_eq_true rfl) (by omega) rfl rfl (a_W.imp w ?_)
      rintro _ ⟨v7, s5, l6, rfl, w⟩
      refine ⟨some (iv v7), _, rfl, ?_⟩
      show a_W _ 154 146 [.ref 56, iv x1, iv x2, iv 1, .retAddr 0, .retAddr 0] [iv v7] (mkH B s5 l6) _
      obtain ⟨h8, w⟩ := w
      by_cases c9 : v7 ≠ 0
      · replace w := w.1 c9
        refine w_i1t (q154 146) h8 c9 ?_
        exact w
      · replace w := w.2 (Decidable.not_not.mp c9)
        refine w_i1f (p := 149) (q154 146) rfl h8 c9 ?_
        refine w_aln (p := 150) (q154 149) rfl rfl ?_
        refine w_iln (p := 151) (q154 150) rfl rfl ?_
        refine w_ldcws (p := 154) (q154 151) rfl ?_
        refine w_call (st := []) (as := [.ref 56, iv x1, .ref 1048598]) (as' := [.ref 1048598, iv x1, .ref 56]) (p := 157) (q154 154) rfl m156 (by decide) (a_ok_i rfl (r56 hB) rfl) rfl rfl (Nat.le_of_ble_eq_true rfl) (by omega) rfl rfl (a_W.imp w ?_)
        rintro _ ⟨v12, s10, l11, rfl, w⟩
        refine ⟨some (iv v12), _, rfl, ?_⟩
        show a_W _ 154 157 [.ref 56, iv x1, iv x2, iv 1, .retAddr 0, .retAddr 0] [iv v12] (mkH B s10 l11) _
        obtain ⟨h13, w⟩ := w
        by_cases c14 : v12 = 0
        · replace w := w.1 c14
          refine w_i1t (q154 157) h13 c14 ?_
          exact w
        · replace w := w.2 c14
          refine w_i1f (p := 160) (q154 157) rfl h13 c14 ?_
          exact w
set_option maxRecDepth 10000 in
theorem w154_160 {d : Nat} {B : aH} {Q : aR → Prop} (hB : a_Can B) (hd : 1 ≤ d) (x1 x2 x3 : Int) (s : Nat → Nat → Int32) (l : Nat → Nat → Int64) (w : ((0 ≤ (zz s 56 26) ∧ (zz s 56 26) < 6002) ∧ (inR x3 ∧ ((x3 ≠ 0 → a_W d 154 207 [.ref 56, iv x1, iv x2, iv x3, iv 1, .retAddr 0] [] (mkH B (zu (zu s 71 (zz s 56 26).toNat 14) 56 25 ((zz s 56 25) + (x2 - (zz s 56 25)))) l) Q) ∧ (x3 = 0 → (((zz s 56 22) ≤ 0 → a_W (d - 1) 158 0 [.ref 63, iv (zz s 56 5), .ref 74, iv (zz s 56 26), .retAddr 0] [] (mkH B (zu (zu s 71 (zz s 56 26).toNat 14) 56 25 ((zz s 56 25) + (x2 - (zz s 56 25)))) l) (fun r => ∃ (v7 : Int) (s5 : Nat → Nat → Int32) (l6 : Nat → Nat → Int64), r = (.inl (some (iv v7)), mkH B s5 l6) ∧ (inR v7 ∧ ((v7 ≠ (-1) → a_W d 154 268 [.ref 56, iv x1, iv x2, iv x3, iv 1, iv v7] [] (mkH B s5 l6) Q) ∧ (v7 = (-1) → a_W (d - 1) 160 0 [.ref 63, iv (zz s5 56 5), .ref 74, iv (zz s5 56 26), .retAddr 0] [] (mkH B s5 l6) (fun r => ∃ (s10 : Nat → Nat → Int32) (l11 : Nat → Nat → Int64), r = (.inl none, mkH B s10 l11) ∧ a_W d 154 268 [.ref 56, iv x1, iv x2, iv x3, iv 1, iv (zz s5 56 5)] [] (mkH B (zu s10 56 5 ((zz s10 56 5) + 1)) l11) Q)))))) ∧ (0 < (zz s 56 22) → a_W d 154 207 [.ref 56, iv x1, iv x2, iv x3, iv 1, .retAddr 0] [] (mkH B (zu (zu s 71 (zz s 56 26).toNat 14) 56 25 ((zz s 56 25) + (x2 - (zz s 56 25)))) l) Q))))))) : a_W d 154 160 [.ref 56, iv x1, iv x2, iv x3, .retAddr 0, .retAddr 0] [] (mkH B s l) Q := by
  refine w_ic (p := 161) (q154 160) rfl ?_
  refine w_goto (q154 161) ?_
  refine w_is (p := 167) (ls' := [.ref 56, iv x1, iv x2, iv x3, iv 1, .retAddr 0]) (q154 165) rfl (Nat.le_of_ble_eq_true rfl) rfl ?_
  refine w_aln (p := 168) (q154 167) rfl rfl ?_
  refine w_il (p := 170) (q154 168) rfl rfl ?_
  refine w_i1f (p := 173) (q154 170) rfl (by decide) (show ¬ zc _ _ _ by unfold zc; omega) ?_
  refine w_bp (p := 175) (q154 173) rfl (by decide) ?_
  refine w_goto (q154 175) ?_
  refine w_iln (p := 188) (q154 187) rfl rfl ?_
  refine w_aln (p := 189) (q154 188) rfl rfl ?_
  refine w_gI (p := 192) (j := 25) (v := (zz s 56 25)) (q154 189) rfl (r56 hB) (by decide) (iv_zz s 56 25) ?_
  refine w_sub (p := 193) (q154 192) rfl ?_
  refine w_call (st := []) (as := [.ref 56, iv 14, iv (x2 - (zz s 56 25))]) (as' := [iv (x2 - (zz s 56 25)), iv 14, .ref 56]) (p := 196) (q154 193) rfl m157 (by decide) (a_ok_i rfl (r56 hB) rfl) rfl rfl (Nat.le_of_ble_eq_true rfl) (by omega) rfl rfl ?_
  refine w_aln (p := 1) (q157 0) rfl rfl ?_
  refine w_gR (p := 4) (j := 27) (v := 71) (q157 1) rfl (r56 hB) (by decide) (f56_27 hB) ?_
  refine w_aln (p := 5) (q157 4) rfl rfl ?_
  refine w_gI (p := 8) (j := 26) (v := (zz s 56 26)) (q157 5) rfl (r56 hB) (by decide) (iv_zz s 56 26) ?_
  refine w_iln (p := 9) (q157 8) rfl rfl ?_
  obtain ⟨o1, w⟩ := w
  refine w_ias (p := 10) (q157 9) rfl (r71 hB) (by decide) o1 ?_
  refine w_aln (p := 11) (q157 10) rfl rfl ?_
  refine w_dupr (p := 12) (q157 11) rfl ?_
  refine w_gI (p := 15) (j := 25) (v := (zz s 56 25)) (q157 12) rfl (r56 hB) (by decide) (iv_zz s 56 25) ?_
  refine w_iln (p := 16) (q157 15) rfl rfl ?_
  refine w_add (p := 17) (q157 16) rfl ?_
  refine w_pI (p := 20) (j := 25) (q157 17) rfl (r56 hB) (by decide) rfl ?_
  refine w_rv (q157 20) rfl ⟨_, _, rfl, ?_⟩
  show a_W _ 154 196 [.ref 56, iv x1, iv x2, iv x3, iv 1, .retAddr 0] [] _ _
  refine w_iln (p := 197) (q154 196) rfl rfl ?_
  obtain ⟨h2, w⟩ := w
  by_cases c3 : x3 ≠ 0
  · replace w := w.1 c3
    refine w_i1t (q154 197) h2 c3 ?_
    exact w
  · replace w := w.2 (Decidable.not_not.mp c3)
    refine w_i1f (p := 200) (q154 197) rfl h2 c3 ?_
    refine w_aln (p := 201) (q154 200) rfl rfl ?_
    refine w_gI (p := 204) (j := 22) (v := (zz s 56 22)) (q154 201) rfl (r56 hB) (by decide) (iv_zz s 56 22) ?_
    by_cases c4 : (zz s 56 22) ≤ 0
    · replace w := w.1 c4
      refine w_i1t (q154 204) (inR_zz _ _ _) c4 ?_
      refine w_aln (p := 209) (q154 208) rfl rfl ?_
      refine w_gR (p := 212) (j := 11) (v := 63) (q154 209) rfl (r56 hB) (by decide) (f56_11 hB) ?_
      refine w_aln (p := 213) (q154 212) rfl rfl ?_
      refine w_gI (p := 216) (j := 5) (v := (zz s 56 5)) (q154 213) rfl (r56 hB) (by decide) (iv_zz s 56 5) ?_
      refine w_aln (p := 217) (q154 216) rfl rfl ?_
      refine w_gR (p := 220) (j := 30) (v := 74) (q154 217) rfl (r56 hB) (by decide) (f56_30 hB) ?_
      refine w_aln (p := 221) (q154 220) rfl rfl ?_
      refine w_gI (p := 224) (j := 26) (v := (zz s 56 26)) (q154 221) rfl (r56 hB) (by decide) (iv_zz s 56 26) ?_
      refine w_call (st := []) (as := [.ref 63, iv (zz s 56 5), .ref 74, iv (zz s 56 26)]) (as' := [iv (zz s 56 26), .ref 74, iv (zz s 56 5), .ref 63]) (p := 227) (q154 224) rfl m158 (by decide) (a_ok_s rfl rfl) rfl rfl (Nat.le_of_ble_eq_true rfl) (by omega) rfl rfl (a_W.imp w ?_)
      rintro _ ⟨v7, s5, l6, rfl, w⟩
      refine ⟨some (iv v7), _, rfl, ?_⟩
      show a_W _ 154 227 [.ref 56, iv x1, iv x2, iv x3, iv 1, .retAddr 0] [iv v7] (mkH B s5 l6) _
      refine w_is (p := 229) (ls' := [.ref 56, iv x1, iv x2, iv x3, iv 1, iv v7]) (q154 227) rfl (Nat.le_of_ble_eq_true rfl) rfl ?_
      refine w_il (p := 231) (q154 229) rfl rfl ?_
      refine w_ic (p := 232) (q154 231) rfl ?_
      obtain ⟨h8, w⟩ := w
      by_cases c9 : v7 ≠ (-1)
      · replace w := w.1 c9
        refine w_i2t (q154 232) h8 (by decide) c9 ?_
        exact w
      · replace w := w.2 (Decidable.not_not.mp c9)
        refine w_i2f (p := 235) (q154 232) rfl h8 (by decide) c9 ?_
        refine w_aln (p := 236) (q154 235) rfl rfl ?_
        refine w_gI (p := 239) (j := 5) (v := (zz s5 56 5)) (q154 236) rfl (r56 hB) (by decide) (iv_zz s5 56 5) ?_
        refine w_is (p := 241) (ls' := [.ref 56, iv x1, iv x2, iv x3, iv 1, iv (zz s5 56 5)]) (q154 239) rfl (Nat.le_of_ble_eq_true rfl) rfl ?_
        refine w_aln (p := 242) (q154 241) rfl rfl ?_
        refine w_gR (p := 245) (j := 11) (v := 63) (q154 242) rfl (r56 hB) (by decide) (f56_11 hB) ?_
        refine w_il (p := 247) (q154 245) rfl rfl ?_
        refine w_aln (p := 248) (q154 247) rfl rfl ?_
        refine w_gR (p := 251) (j := 30) (v := 74) (q154 248) rfl (r56 hB) (by decide) (f56_30 hB) ?_
        refine w_aln (p := 252) (q154 251) rfl rfl ?_
        refine w_gI (p := 255) (j := 26) (v := (zz s5 56 26)) (q154 252) rfl (r56 hB) (by decide) (iv_zz s5 56 26) ?_
        refine w_call (st := []) (as := [.ref 63, iv (zz s5 56 5), .ref 74, iv (zz s5 56 26)]) (as' := [iv (zz s5 56 26), .ref 74, iv (zz s5 56 5), .ref 63]) (p := 258) (q154 255) rfl m160 (by decide) (a_ok_s rfl rfl) rfl rfl (Nat.le_of_ble_eq_true rfl) (by omega) rfl rfl (a_W.imp w ?_)
        rintro _ ⟨s10, l11, rfl, w⟩
        refine ⟨none, _, rfl, ?_⟩
        show a_W _ 154 258 [.ref 56, iv x1, iv x2, iv x3, iv 1, iv (zz s5 56 5)] [] (mkH B s10 l11) _
        refine w_aln (p := 259) (q154 258) rfl rfl ?_
        refine w_dupr (p := 260) (q154 259) rfl ?_
        refine w_gI (p := 263) (j := 5) (v := (zz s10 56 5)) (q154 260) rfl (r56 hB) (by decide) (iv_zz s10 56 5) ?_
        refine w_ic (p := 264) (q154 263) rfl ?_
        refine w_add (p := 265) (q154 264) rfl ?_
        refine w_pI (p := 268) (j := 5) (q154 265) rfl (r56 hB) (by decide) rfl ?_
        exact w
    · replace w := w.2 (Int.not_le.mp c4)
      refine w_i1f (p := 207) (q154 204) rfl (inR_zz _ _ _) c4 ?_
      exact w
set_option maxRecDepth 10000 in
theorem w154_164 {d : Nat} {B : aH} {Q : aR → Prop} (hB : a_Can B) (hd : 1 ≤ d) (x1 x2 x3 : Int) (s : Nat → Nat → Int32) (l : Nat → Nat → Int64) (w : (inR x3 ∧ ((x3 = 0 → ((0 ≤ (zz s 56 26) ∧ (zz s 56 26) < 6002) ∧ (((zz s 56 22) ≤ 0 → a_W (d - 1) 158 0 [.ref 63, iv (zz s 56 5), .ref 74, iv (zz s 56 26), .retAddr 0] [] (mkH B (zu (zu s 71 (zz s 56 26).toNat 2) 56 25 ((zz s 56 25) + (x2 - (zz s 56 25)))) l) (fun r => ∃ (v7 : Int) (s5 : Nat → Nat → Int32) (l6 : Nat → Nat → Int64), r = (.inl (some (iv v7)), mkH B s5 l6) ∧ (inR v7 ∧ ((v7 ≠ (-1) → a_W d 154 268 [.ref 56, iv x1, iv x2, iv x3, iv 0, iv v7] [] (mkH B s5 l6) Q) ∧ (v7 = (-1) → a_W (d - 1) 160 0 [.ref 63, iv (zz s5 56 5), .ref 74, iv (zz s5 56 26), .retAddr 0] [] (mkH B s5 l6) (fun r => ∃ (s10 : Nat → Nat → Int32) (l11 : Nat → Nat → Int64), r = (.inl none, mkH B s10 l11) ∧ a_W d 154 268 [.ref 56, iv x1, iv x2, iv x3, iv 0, iv (zz s5 56 5)] [] (mkH B (zu s10 56 5 ((zz s10 56 5) + 1)) l11) Q)))))) ∧ (0 < (zz s 56 22) → a_W d 154 207 [.ref 56, iv x1, iv x2, iv x3, iv 0, .retAddr 0] [] (mkH B (zu (zu s 71 (zz s 56 26).toNat 2) 56 25 ((zz s 56 25) + (x2 - (zz s 56 25)))) l) Q)))) ∧ (x3 ≠ 0 → ((0 ≤ (zz s 56 26) ∧ (zz s 56 26) < 6002) ∧ a_W d 154 207 [.ref 56, iv x1, iv x2, iv x3, iv 0, .retAddr 0] [] (mkH B (zu (zu s 71 (zz s 56 26).toNat 1) 56 25 ((zz s 56 25) + (x2 - (zz s 56 25)))) l) Q))))) : a_W d 154 164 [.ref 56, iv x1, iv x2, iv x3, .retAddr 0, .retAddr 0] [] (mkH B s l) Q := by
  refine w_ic (p := 165) (q154 164) rfl ?_
  refine w_is (p := 167) (ls' := [.ref 56, iv x1, iv x2, iv x3, iv 0, .retAddr 0]) (q154 165) rfl (Nat.le_of_ble_eq_true rfl) rfl ?_
  refine w_aln (p := 168) (q154 167) rfl rfl ?_
  refine w_il (p := 170) (q154 168) rfl rfl ?_
  refine w_i1t (q154 170) (by decide) (show zc _ _ _ by unfold zc; omega) ?_
  refine w_iln (p := 179) (q154 178) rfl rfl ?_
  obtain ⟨h1, w⟩ := w
  by_cases c2 : x3 = 0
  · replace w := w.1 c2
    refine w_i1t (q154 179) h1 c2 ?_
    refine w_ic (p := 187) (q154 186) rfl ?_
    refine w_iln (p := 188) (q154 187) rfl rfl ?_
    refine w_aln (p := 189) (q154 188) rfl rfl ?_
    refine w_gI (p := 192) (j := 25) (v := (zz s 56 25)) (q154 189) rfl (r56 hB) (by decide) (iv_zz s 56 25) ?_
    refine w_sub (p := 193) (q154 192) rfl ?_
    refine w_call (st := []) (as := [.ref 56, iv 2, iv (x2 - (zz s 56 25))]) (as' := [iv (x2 - (zz s 56 25)), iv 2, .ref 56]) (p := 196) (q154 193) rfl m157 (by decide) (a_ok_i rfl (r56 hB) rfl) rfl rfl (Nat.le_of_ble_eq_true rfl) (by omega) rfl rfl ?_
    refine w_aln (p := 1) (q157 0) rfl rfl ?_
    refine w_gR (p := 4) (j := 27) (v := 71) (q157 1) rfl (r56 hB) (by decide) (f56_27 hB) ?_
    refine w_aln (p := 5) (q157 4) rfl rfl ?_
    refine w_gI (p := 8) (j := 26) (v := (zz s 56 26)) (q157 5) rfl (r56 hB) (by decide) (iv_zz s 56 26) ?_
    refine w_iln (p := 9) (q157 8) rfl rfl ?_
    obtain ⟨o3, w⟩ := w
    refine w_ias (p := 10) (q157 9) rfl (r71 hB) (by decide) o3 ?_
    refine w_aln (p := 11) (q157 10) rfl rfl ?_
    refine w_dupr (p := 12) (q157 11) rfl ?_
    refine w_gI (p := 15) (j := 25) (v := (zz s 56 25)) (q157 12) rfl (r56 hB) (by decide) (iv_zz s 56 25) ?_
    refine w_iln (p := 16) (q157 15) rfl rfl ?_
    refine w_add (p := 17) (q157 16) rfl ?_
    refine w_pI (p := 20) (j := 25) (q157 17) rfl (r56 hB) (by decide) rfl ?_
    refine w_rv (q157 20) rfl ⟨_, _, rfl, ?_⟩
    show a_W _ 154 196 [.ref 56, iv x1, iv x2, iv x3, iv 0, .retAddr 0] [] _ _
    refine w_iln (p := 197) (q154 196) rfl rfl ?_
    refine w_i1f (p := 200) (q154 197) rfl h1 (show ¬ zc _ _ _ by unfold zc; omega) ?_
    refine w_aln (p := 201) (q154 200) rfl rfl ?_
    refine w_gI (p := 204) (j := 22) (v := (zz s 56 22)) (q154 201) rfl (r56 hB) (by decide) (iv_zz s 56 22) ?_
    by_cases c4 : (zz s 56 22) ≤ 0
    · replace w := w.1 c4
      refine w_i1t (q154 204) (inR_zz _ _ _) c4 ?_
      refine w_aln (p := 209) (q154 208) rfl rfl ?_
      refine w_gR (p := 212) (j := 11) (v := 63) (q154 209) rfl (r56 hB) (by decide) (f56_11 hB) ?_
      refine w_aln (p := 213) (q154 212) rfl rfl ?_
      refine w_gI (p := 216) (j := 5) (v := (zz s 56 5)) (q154 213) rfl (r56 hB) (by decide) (iv_zz s 56 5) ?_
      refine w_aln (p := 217) (q154 216) rfl rfl ?_
      refine w_gR (p := 220) (j := 30) (v := 74) (q154 217) rfl (r56 hB) (by decide) (f56_30 hB) ?_
      refine w_aln (p := 221) (q154 220) rfl rfl ?_
      refine w_gI (p := 224) (j := 26) (v := (zz s 56 26)) (q154 221) rfl (r56 hB) (by decide) (iv_zz s 56 26) ?_
      refine w_call (st := []) (as := [.ref 63, iv (zz s 56 5), .ref 74, iv (zz s 56 26)]) (as' := [iv (zz s 56 26), .ref 74, iv (zz s 56 5), .ref 63]) (p := 227) (q154 224) rfl m158 (by decide) (a_ok_s rfl rfl) rfl rfl (Nat.le_of_ble_eq_true rfl) (by omega) rfl rfl (a_W.imp w ?_)
      rintro _ ⟨v7, s5, l6, rfl, w⟩
      refine ⟨some (iv v7), _, rfl, ?_⟩
      show a_W _ 154 227 [.ref 56, iv x1, iv x2, iv x3, iv 0, .retAddr 0] [iv v7] (mkH B s5 l6) _
      refine w_is (p := 229) (ls' := [.ref 56, iv x1, iv x2, iv x3, iv 0, iv v7]) (q154 227) rfl (Nat.le_of_ble_eq_true rfl) rfl ?_
      refine w_il (p := 231) (q154 229) rfl rfl ?_
      refine w_ic (p := 232) (q154 231) rfl ?_
      obtain ⟨h8, w⟩ := w
      by_cases c9 : v7 ≠ (-1)
      · replace w := w.1 c9
        refine w_i2t (q154 232) h8 (by decide) c9 ?_
        exact w
      · replace w := w.2 (Decidable.not_not.mp c9)
        refine w_i2f (p := 235) (q154 232) rfl h8 (by decide) c9 ?_
        refine w_aln (p := 236) (q154 235) rfl rfl ?_
        refine w_gI (p := 239) (j := 5) (v := (zz s5 56 5)) (q154 236) rfl (r56 hB) (by decide) (iv_zz s5 56 5) ?_
        refine w_is (p := 241) (ls' := [.ref 56, iv x1, iv x2, iv x3, iv 0, iv (zz s5 56 5)]) (q154 239) rfl (Nat.le_of_ble_eq_true rfl) rfl ?_
        refine w_aln (p := 242) (q154 241) rfl rfl ?_
        refine w_gR (p := 245) (j := 11) (v := 63) (q154 242) rfl (r56 hB) (by decide) (f56_11 hB) ?_
        refine w_il (p := 247) (q154 245) rfl rfl ?_
        refine w_aln (p := 248) (q154 247) rfl rfl ?_
        refine w_gR (p := 251) (j := 30) (v := 74) (q154 248) rfl (r56 hB) (by decide) (f56_30 hB) ?_
        refine w_aln (p := 252) (q154 251) rfl rfl ?_
        refine w_gI (p := 255) (j := 26) (v := (zz s5 56 26)) (q154 252) rfl (r56 hB) (by decide) (iv_zz s5 56 26) ?_
        refine w_call (st := []) (as := [.ref 63, iv (zz s5 56 5), .ref 74, iv (zz s5 56 26)]) (as' := [iv (zz s5 56 26), .ref 74, iv (zz s5 56 5), .ref 63]) (p := 258) (q154 255) rfl m160 (by decide) (a_ok_s rfl rfl) rfl rfl (Nat.le_of_ble_eq_true rfl) (by omega) rfl rfl (a_W.imp w ?_)
        rintro _ ⟨s10, l11, rfl, w⟩
        refine ⟨none, _, rfl, ?_⟩
        show a_W _ 154 258 [.ref 56, iv x1, iv x2, iv x3, iv 0, iv (zz s5 56 5)] [] (mkH B s10 l11) _
        refine w_aln (p := 259) (q154 258) rfl rfl ?_
        refine w_dupr (p := 260) (q154 259) rfl ?_
        refine w_gI (p := 263) (j := 5) (v := (zz s10 56 5)) (q154 260) rfl (r56 hB) (by decide) (iv_zz s10 56 5) ?_
        refine w_ic (p := 264) (q154 263) rfl ?_
        refine w_add (p := 265) (q154 264) rfl ?_
        refine w_pI (p := 268) (j := 5) (q154 265) rfl (r56 hB) (by decide) rfl ?_
        exact w
    · replace w := w.2 (Int.not_le.mp c4)
      refine w_i1f (p := 207) (q154 204) rfl (inR_zz _ _ _) c4 ?_
      exact w
  · replace w := w.2 c2
    refine w_i1f (p := 182) (q154 179) rfl h1 c2 ?_
    refine w_ic (p := 183) (q154 182) rfl ?_
    refine w_goto (q154 183) ?_
    refine w_iln (p := 188) (q154 187) rfl rfl ?_
    refine w_aln (p := 189) (q154 188) rfl rfl ?_
    refine w_gI (p := 192) (j := 25) (v := (zz s 56 25)) (q154 189) rfl (r56 hB) (by decide) (iv_zz s 56 25) ?_
    refine w_sub (p := 193) (q154 192) rfl ?_
    refine w_call (st := []) (as := [.ref 56, iv 1, iv (x2 - (zz s 56 25))]) (as' := [iv (x2 - (zz s 56 25)), iv 1, .ref 56]) (p := 196) (q154 193) rfl m157 (by decide) (a_ok_i rfl (r56 hB) rfl) rfl rfl (Nat.le_of_ble_eq_true rfl) (by omega) rfl rfl ?_
    refine w_aln (p := 1) (q157 0) rfl rfl ?_
    refine w_gR (p := 4) (j := 27) (v := 71) (q157 1) rfl (r56 hB) (by decide) (f56_27 hB) ?_
    refine w_aln (p := 5) (q157 4) rfl rfl ?_
    refine w_gI (p := 8) (j := 26) (v := (zz s 56 26)) (q157 5) rfl (r56 hB) (by decide) (iv_zz s 56 26) ?_
    refine w_iln (p := 9) (q157 8) rfl rfl ?_
    obtain ⟨o12, w⟩ := w
    refine w_ias (p := 10) (q157 9) rfl (r71 hB) (by decide) o12 ?_
    refine w_aln (p := 11) (q157 10) rfl rfl ?_
    refine w_dupr (p := 12) (q157 11) rfl ?_
    refine w_gI (p := 15) (j := 25) (v := (zz s 56 25)) (q157 12) rfl (r56 hB) (by decide) (iv_zz s 56 25) ?_
    refine w_iln (p := 16) (q157 15) rfl rfl ?_
    refine w_add (p := 17) (q157 16) rfl ?_
    refine w_pI (p := 20) (j := 25) (q157 17) rfl (r56 hB) (by decide) rfl ?_
    refine w_rv (q157 20) rfl ⟨_, _, rfl, ?_⟩
    show a_W _ 154 196 [.ref 56, iv x1, iv x2, iv x3, iv 0, .retAddr 0] [] _ _
    refine w_iln (p := 197) (q154 196) rfl rfl ?_
    refine w_i1t (q154 197) h1 (show zc _ _ _ by unfold zc; omega) ?_
    exact w
set_option maxRecDepth 10000 in
theorem w154_207 {d : Nat} {B : aH} {Q : aR → Prop} (hB : a_Can B) (x1 x2 x3 x4 : Int) (s : Nat → Nat → Int32) (l : Nat → Nat → Int64) (w : Q (.inl none, (mkH B s l))) : a_W d 154 207 [.ref 56, iv x1, iv x2, iv x3, iv x4, .retAddr 0] [] (mkH B s l) Q := by
  exact w_rv (q154 207) rfl w
set_option maxRecDepth 10000 in
theorem w154_268 {d : Nat} {B : aH} {Q : aR → Prop} (hB : a_Can B) (x1 x2 x3 x4 x5 : Int) (s : Nat → Nat → Int32) (l : Nat → Nat → Int64) (w : ((0 ≤ (zz s 56 26) ∧ (zz s 56 26) < 6002) ∧ Q (.inl none, (mkH B (zu s 73 (zz s 56 26).toNat x5) l)))) : a_W d 154 268 [.ref 56, iv x1, iv x2, iv x3, iv x4, iv x5] [] (mkH B s l) Q := by
  refine w_aln (p := 269) (q154 268) rfl rfl ?_
  refine w_gR (p := 272) (j := 29) (v := 73) (q154 269) rfl (r56 hB) (by decide) (f56_29 hB) ?_
  refine w_aln (p := 273) (q154 272) rfl rfl ?_
  refine w_gI (p := 276) (j := 26) (v := (zz s 56 26)) (q154 273) rfl (r56 hB) (by decide) (iv_zz s 56 26) ?_
  refine w_il (p := 278) (q154 276) rfl rfl ?_
  obtain ⟨o1, w⟩ := w
  refine w_ias (p := 279) (q154 278) rfl (r73 hB) (by decide) o1 ?_
  exact w_rv (q154 279) rfl w
