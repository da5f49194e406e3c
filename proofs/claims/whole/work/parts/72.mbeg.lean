/-! printed by wip/am/mk72.py: the reference begins; it declares a type -/
theorem w152_0 {d : Nat} {B : aH} {Q : aR → Prop} (hB : a_Can B) (x1 x2 : Int) (s : Nat → Nat → Int32) (l : Nat → Nat → Int64) (w : (((zz s 56 22) ≤ 0 → Q (.inl none, (mkH B (zu (zu s 56 22 x1) 56 23 x2) l))) ∧ (0 < (zz s 56 22) → Q (.inl none, (mkH B s l))))) : a_W d 152 0 [.ref 56, iv x1, iv x2] [] (mkH B s l) Q := by
  refine w_aln (p := 1) (q152 0) rfl rfl ?_
  refine w_gI (p := 4) (j := 22) (v := (zz s 56 22)) (q152 1) rfl (r56 hB) (by decide) (iv_zz s 56 22) ?_
  by_cases c1 : (zz s 56 22) ≤ 0
  · replace w := w.1 c1
    refine w_i1t (q152 4) (inR_zz _ _ _) c1 ?_
    refine w_aln (p := 9) (q152 8) rfl rfl ?_
    refine w_iln (p := 10) (q152 9) rfl rfl ?_
    refine w_pI (p := 13) (j := 22) (q152 10) rfl (r56 hB) (by decide) rfl ?_
    refine w_aln (p := 14) (q152 13) rfl rfl ?_
    refine w_iln (p := 15) (q152 14) rfl rfl ?_
    refine w_pI (p := 18) (j := 23) (q152 15) rfl (r56 hB) (by decide) rfl ?_
    exact w_rv (q152 18) rfl w
  · replace w := w.2 (Int.not_le.mp c1)
    refine w_i1f (p := 7) (q152 4) rfl (inR_zz _ _ _) c1 ?_
    exact w_rv (q152 7) rfl w
theorem m_die {d : Nat} {B : aH} (hB : a_Can B) (f p : Int) (s : aZ) (l : aZL) (h22 : zz s 56 22 = 0) : a_W d 152 0 [.ref 56, iv f, iv p] [] (mkH B s l) (fun q => q = (.inl none, mkH B (zu (zu s 56 22 f) 56 23 p) l)) := w152_0 hB f p s l ⟨fun _ => rfl, fun h => absurd h (by omega)⟩
theorem m_die_f {d : Nat} {B : aH} (hB : a_Can B) (f p : Int) (s : aZ) (l : aZL) (h22 : 0 < zz s 56 22) : a_W d 152 0 [.ref 56, iv f, iv p] [] (mkH B s l) (fun q => q = (.inl none, mkH B s l)) := w152_0 hB f p s l ⟨fun h => absurd h (by omega), fun _ => rfl⟩
/-- what begin sets -/
def MBg (n fx : Nat) (s s2 : aZ) : Prop := (∀ k, k ≠ 56 → k ≠ 67 → s2 k = s k) ∧ (∀ j, j < fx → zz s2 67 j = -1) ∧ (∀ j, fx ≤ j → zz s2 67 j = zz s 67 j) ∧ zz s2 56 24 = n ∧ zz s2 56 25 = 0 ∧ zz s2 56 26 = 0 ∧ zz s2 56 31 = 0 ∧ zz s2 56 22 = 0 ∧ zz s2 56 23 = -1 ∧ zz s2 56 32 = 0 ∧ zz s2 56 41 = 0 ∧ zz s2 56 33 = 0 ∧ zz s2 56 48 = 0 ∧ zz s2 56 16 = fx ∧ ∀ j, j ∉ [16, 22, 23, 24, 25, 26, 31, 32, 33, 41, 48] → zz s2 56 j = zz s 56 j
theorem m_begin {d : Nat} {B : aH} (hB : a_Can B) (n fx : Nat) (hn : n ≤ 8000) (s : aZ) (l : aZL) (hfx : zz s 56 17 = fx) (h6 : fx ≤ 60000) : a_W d 145 0 [.ref 56, iv (n : Int), .retAddr 0] [] (mkH B s l) (fun q => ∃ s2, q = (.inl none, mkH B s2 l) ∧ MBg n fx s s2) := by
  refine w145_0 hB _ s l ?_
  rw [hfx]
  generalize hs1 : (zu (zu (zu (zu (zu (zu (zu (zu (zu (zu (zu s 56 24 (n : Int)) 56 25 0) 56 26 0) 56 31 0) 56 22 0) 56 23 (-1)) 56 32 0) 56 41 0) 56 33 0) 56 48 0) 56 16 (fx : Int)) = s1
  have base : MBg n 0 s s1 ∨ True := Or.inr trivial
  have f1 : ∀ k, k ≠ 56 → s1 k = s k := by
    intro k hk
    rw [← hs1, zu_ne _ _ _ _ _ hk, zu_ne _ _ _ _ _ hk, zu_ne _ _ _ _ _ hk, zu_ne _ _ _ _ _ hk, zu_ne _ _ _ _ _ hk, zu_ne _ _ _ _ _ hk, zu_ne _ _ _ _ _ hk, zu_ne _ _ _ _ _ hk, zu_ne _ _ _ _ _ hk, zu_ne _ _ _ _ _ hk, zu_ne _ _ _ _ _ hk]
  have g16 : zz s1 56 16 = fx := by rw [← hs1, zz_same _ _ _ ⟨by omega, by omega⟩]
  have g24 : zz s1 56 24 = (n : Int) := by rw [← hs1, zz_ne _ _ _ _ _ _ (by decide), zz_ne _ _ _ _ _ _ (by decide), zz_ne _ _ _ _ _ _ (by decide), zz_ne _ _ _ _ _ _ (by decide), zz_ne _ _ _ _ _ _ (by decide), zz_ne _ _ _ _ _ _ (by decide), zz_ne _ _ _ _ _ _ (by decide), zz_ne _ _ _ _ _ _ (by decide), zz_ne _ _ _ _ _ _ (by decide), zz_ne _ _ _ _ _ _ (by decide), zz_same _ _ _ ⟨by omega, by omega⟩]
  have g25 : zz s1 56 25 = 0 := by rw [← hs1, zz_ne _ _ _ _ _ _ (by decide), zz_ne _ _ _ _ _ _ (by decide), zz_ne _ _ _ _ _ _ (by decide), zz_ne _ _ _ _ _ _ (by decide), zz_ne _ _ _ _ _ _ (by decide), zz_ne _ _ _ _ _ _ (by decide), zz_ne _ _ _ _ _ _ (by decide), zz_ne _ _ _ _ _ _ (by decide), zz_ne _ _ _ _ _ _ (by decide), zz_same _ _ _ ⟨by omega, by omega⟩]
  have g26 : zz s1 56 26 = 0 := by rw [← hs1, zz_ne _ _ _ _ _ _ (by decide), zz_ne _ _ _ _ _ _ (by decide), zz_ne _ _ _ _ _ _ (by decide), zz_ne _ _ _ _ _ _ (by decide), zz_ne _ _ _ _ _ _ (by decide), zz_ne _ _ _ _ _ _ (by decide), zz_ne _ _ _ _ _ _ (by decide), zz_ne _ _ _ _ _ _ (by decide), zz_same _ _ _ ⟨by omega, by omega⟩]
  have g31 : zz s1 56 31 = 0 := by rw [← hs1, zz_ne _ _ _ _ _ _ (by decide), zz_ne _ _ _ _ _ _ (by decide), zz_ne _ _ _ _ _ _ (by decide), zz_ne _ _ _ _ _ _ (by decide), zz_ne _ _ _ _ _ _ (by decide), zz_ne _ _ _ _ _ _ (by decide), zz_ne _ _ _ _ _ _ (by decide), zz_same _ _ _ ⟨by omega, by omega⟩]
  have g22 : zz s1 56 22 = 0 := by rw [← hs1, zz_ne _ _ _ _ _ _ (by decide), zz_ne _ _ _ _ _ _ (by decide), zz_ne _ _ _ _ _ _ (by decide), zz_ne _ _ _ _ _ _ (by decide), zz_ne _ _ _ _ _ _ (by decide), zz_ne _ _ _ _ _ _ (by decide), zz_same _ _ _ ⟨by omega, by omega⟩]
  have g23 : zz s1 56 23 = (-1) := by rw [← hs1, zz_ne _ _ _ _ _ _ (by decide), zz_ne _ _ _ _ _ _ (by decide), zz_ne _ _ _ _ _ _ (by decide), zz_ne _ _ _ _ _ _ (by decide), zz_ne _ _ _ _ _ _ (by decide), zz_same _ _ _ ⟨by omega, by omega⟩]
  have g32 : zz s1 56 32 = 0 := by rw [← hs1, zz_ne _ _ _ _ _ _ (by decide), zz_ne _ _ _ _ _ _ (by decide), zz_ne _ _ _ _ _ _ (by decide), zz_ne _ _ _ _ _ _ (by decide), zz_same _ _ _ ⟨by omega, by omega⟩]
  have g41 : zz s1 56 41 = 0 := by rw [← hs1, zz_ne _ _ _ _ _ _ (by decide), zz_ne _ _ _ _ _ _ (by decide), zz_ne _ _ _ _ _ _ (by decide), zz_same _ _ _ ⟨by omega, by omega⟩]
  have g33 : zz s1 56 33 = 0 := by rw [← hs1, zz_ne _ _ _ _ _ _ (by decide), zz_ne _ _ _ _ _ _ (by decide), zz_same _ _ _ ⟨by omega, by omega⟩]
  have g48 : zz s1 56 48 = 0 := by rw [← hs1, zz_ne _ _ _ _ _ _ (by decide), zz_same _ _ _ ⟨by omega, by omega⟩]
  have gf : ∀ j, j ∉ [16, 22, 23, 24, 25, 26, 31, 32, 33, 41, 48] → zz s1 56 j = zz s 56 j := by
    intro j hj
    rw [← hs1, zz_ne _ _ _ _ _ _ (fun q => hj (by rw [q.2]; decide)), zz_ne _ _ _ _ _ _ (fun q => hj (by rw [q.2]; decide)), zz_ne _ _ _ _ _ _ (fun q => hj (by rw [q.2]; decide)), zz_ne _ _ _ _ _ _ (fun q => hj (by rw [q.2]; decide)), zz_ne _ _ _ _ _ _ (fun q => hj (by rw [q.2]; decide)), zz_ne _ _ _ _ _ _ (fun q => hj (by rw [q.2]; decide)), zz_ne _ _ _ _ _ _ (fun q => hj (by rw [q.2]; decide)), zz_ne _ _ _ _ _ _ (fun q => hj (by rw [q.2]; decide)), zz_ne _ _ _ _ _ _ (fun q => hj (by rw [q.2]; decide)), zz_ne _ _ _ _ _ _ (fun q => hj (by rw [q.2]; decide)), zz_ne _ _ _ _ _ _ (fun q => hj (by rw [q.2]; decide))]
  clear hs1
  have loop : ∀ (k j : Nat) (s2 : aZ), j + k = fx → (∀ q, q ≠ 67 → s2 q = s1 q) → (∀ q, q < j → zz s2 67 q = -1) → (∀ q, j ≤ q → zz s2 67 q = zz s 67 q) → a_W d 145 60 [.ref 56, iv (n : Int), iv (j : Int)] [] (mkH B s2 l) (fun q => ∃ s2, q = (.inl none, mkH B s2 l) ∧ MBg n fx s s2) := by
    intro k
    induction k with
    | zero =>
      intro j s2 hj k1 k2 k3
      have hjf : j = fx := by omega
      subst hjf
      have z56 : ∀ q, zz s2 56 q = zz s1 56 q := fun q => zz_of (k1 56 (by decide)) q
      have e17 : zz s2 56 17 = j := by rw [z56, gf 17 (by decide)]; exact hfx
      refine w145_60 hB _ _ s2 l ⟨⟨by omega, by omega⟩, fun _ => ⟨s2, rfl, fun q q1 q2 => (k1 q q2).trans (f1 q q1), k2, k3, ?_, ?_, ?_, ?_, ?_, ?_, ?_, ?_, ?_, ?_, ?_, fun q hq => (z56 q).trans (gf q hq)⟩, fun h => absurd h (by omega)⟩
      · rw [z56]; exact g24
      · rw [z56]; exact g25
      · rw [z56]; exact g26
      · rw [z56]; exact g31
      · rw [z56]; exact g22
      · rw [z56]; exact g23
      · rw [z56]; exact g32
      · rw [z56]; exact g41
      · rw [z56]; exact g33
      · rw [z56]; exact g48
      · rw [z56]; exact g16
    | succ k ih =>
      intro j s2 hj k1 k2 k3
      have e17 : zz s2 56 17 = fx := by rw [zz_of (k1 56 (by decide)), gf 17 (by decide)]; exact hfx
      refine w145_60 hB _ _ s2 l ⟨⟨by omega, by omega⟩, fun h => absurd h (by omega), fun _ => ⟨⟨by omega, by omega⟩, ?_⟩⟩
      rw [natc, show (j : Int) + 1 = ((j + 1 : Nat) : Int) by omega]
      refine ih (j + 1) _ (by omega) (fun q hq => (zu_ne _ _ _ _ _ hq).trans (k1 q hq)) (fun q hq => ?_) (fun q hq => ?_)
      · by_cases e : q = j
        · rw [e, zz_same _ _ _ (by decide)]
        · rw [zz_ne _ _ _ _ _ _ (by omega)]
          exact k2 q (by omega)
      · rw [zz_ne _ _ _ _ _ _ (by omega)]
        exact k3 q (by omega)
  exact loop fx 0 s1 (by omega) (fun _ _ => rfl) (fun q hq => absurd hq (Nat.not_lt_zero _)) (fun q _ => zz_of (f1 67 (by decide)) q)
/-- the reference's table of types -/
def MTy (tn : List (List Int)) (ta : List Int) (s : aZ) (l : aZL) : Prop := zz s 56 4 = tn.length ∧ tn.length ≤ 34 ∧ 3 ≤ tn.length ∧ tn.getD 2 [] = [45, 62] ∧ (∀ i j, i < j → j < tn.length → tn.getD i [] ≠ tn.getD j []) ∧ (∀ i, i < tn.length → i ≠ 2 → VN (tn.getD i []) ∧ LN l 61 i (tn.getD i []) ∧ zz s 62 i = ta.getD i 0) ∧ LN l 61 2 [] ∧ ta.length = tn.length
theorem getD_set (l : List (List Int)) (i : Nat) (h : 2 < l.length) : (l.set 2 []).getD i [] = if i = 2 then [] else l.getD i [] := by
  rw [List.getD_eq_getElem?_getD, List.getElem?_set]
  by_cases e : i = 2
  · subst e
    rw [if_pos rfl, if_pos rfl, if_pos h]
    rfl
  · rw [if_neg (fun q => e q.symm), if_neg e, List.getD_eq_getElem?_getD]
/-- a word is found alike in both tables -/
theorem ffd_ty {tn : List (List Int)} (h2 : 2 < tn.length) (ha : tn.getD 2 [] = [45, 62]) (hd : ∀ i j, i < j → j < tn.length → tn.getD i [] ≠ tn.getD j []) (nm : List Int) (h0 : nm ≠ []) (h1 : nm ≠ [45, 62]) : ffd (tn.set 2 []) nm (tn.set 2 []).length 0 = fd tn nm tn.length := by
  rw [List.length_set]
  rcases ffd_cases (tn.set 2 []) nm tn.length 0 with ⟨g1, g2⟩ | ⟨j, g1, g2, g3, g4⟩
  · rcases fd_cases tn nm tn.length with ⟨k1, k2⟩ | ⟨i, k1, k2, k3⟩
    · rw [g1, k1]
    · exfalso
      have hi2 : i ≠ 2 := fun e => h1 (by rw [e, ha] at k3; exact k3.symm)
      have := g2 i (Nat.zero_le _) (by omega)
      rw [getD_set _ _ h2, if_neg hi2] at this
      exact this k3
  · have hj2 : j ≠ 2 := fun e => by
      rw [e, getD_set _ _ h2, if_pos rfl] at g4
      exact h0 g4.symm
    rw [getD_set _ _ h2, if_neg hj2] at g4
    rcases fd_cases tn nm tn.length with ⟨k1, k2⟩ | ⟨i, k1, k2, k3⟩
    · exact absurd g4 (k2 j (by omega))
    · rw [g3, k2]
      rcases Nat.lt_trichotomy i j with q | q | q
      · exact absurd (k3.trans g4.symm) (hd i j q (by omega))
      · rw [q]
      · exact absurd (g4.trans k3.symm) (hd j i q k1)
