/-! SIGNS' TEXTS; THE READER DECLARES A CONSTANT -/
/-- the text of a sign -/
def opN (k : Int) : List Int := if k = 10 then [33] else if k = 11 then [63] else if k = 12 then [64] else if k = 13 then [126] else if k = 14 then [60, 61, 62] else if k = 15 then [61, 61, 62] else if k = 16 then [92, 47] else if k = 17 then [47, 92] else if k = 18 then [61] else if k = 19 then [60] else if k = 20 then [60, 61] else if k = 21 then [43] else [42]
theorem bt_pos {t : Nat → Int} {n p : Nat} {c : Int} (hc : c ≠ 0) (h : bt t n p = c) : p < n ∧ t p = c := by
  unfold bt at h
  split at h
  · rename_i g; exact ⟨g, h⟩
  · exact absurd h.symm hc
theorem seg_1 (t : Nat → Int) (p : Nat) : seg t p 1 = [t p] := rfl
theorem seg_2 (t : Nat → Int) (p : Nat) : seg t p 2 = [t p, t (p + 1)] := rfl
theorem seg_3 (t : Nat → Int) (p : Nat) : seg t p 3 = [t p, t (p + 1), t (p + 2)] := rfl
theorem z45_op (x : Int) (hk : 10 ≤ z45 x ∧ z45 x ≤ 22) : [x] = opN (z45 x) := by
  by_cases c33 : x = 33
  · subst c33; rfl
  by_cases c63 : x = 63
  · subst c63; rfl
  by_cases c64 : x = 64
  · subst c64; rfl
  by_cases c126 : x = 126
  · subst c126; rfl
  by_cases c61 : x = 61
  · subst c61; rfl
  by_cases c60 : x = 60
  · subst c60; rfl
  by_cases c43 : x = 43
  · subst c43; rfl
  by_cases c42 : x = 42
  · subst c42; rfl
  exfalso
  unfold z45 at hk
  by_cases c40 : x = 40
  · rw [if_pos c40] at hk; omega
  rw [if_neg c40] at hk
  by_cases c41 : x = 41
  · rw [if_pos c41] at hk; omega
  rw [if_neg c41] at hk
  by_cases c58 : x = 58
  · rw [if_pos c58] at hk; omega
  rw [if_neg c58] at hk
  by_cases c46 : x = 46
  · rw [if_pos c46] at hk; omega
  rw [if_neg c46] at hk
  by_cases c92 : x = 92
  · rw [if_pos c92] at hk; omega
  rw [if_neg c92, if_neg c33, if_neg c63, if_neg c64, if_neg c126, if_neg c61, if_neg c60, if_neg c43, if_neg c42] at hk
  by_cases cl : x = 91 ∨ x = 93 ∨ x = 44 ∨ x = 59 ∨ x = 124
  · rw [if_pos cl] at hk; omega
  · rw [if_neg cl] at hk; omega
theorem tk_op {t : Nat → Int} {n p : Nat} (hp : p < n) (hk : 10 ≤ tkK t n p ∧ tkK t n p ≤ 22) : nmW t n p = opN (tkK t n p) ∧ p + (nmW t n p).length = tkE t n p ∧ tkE t n p ≤ n := by
  by_cases h1 : z31 (t p) ≠ 0
  · exfalso
    have e : tkK t n p = (if wd t (n - p) p = p + 2 ∧ ((t p = 98 ∧ t (p + 1) = 121) ∨ (t p = 105 ∧ t (p + 1) = 110)) then 23 else 1) := by unfold tkK; rw [if_pos h1]
    rw [e] at hk
    split at hk <;> omega
  by_cases h2 : t p = 39
  · exfalso
    have e : tkK t n p = 2 := by unfold tkK; rw [if_neg h1, if_pos h2]
    omega
  by_cases h3 : z34 (t p) ≠ 0
  · exfalso
    have e : tkK t n p = 3 := by unfold tkK; rw [if_neg h1, if_neg h2, if_pos h3]
    omega
  by_cases h4 : z43 (t p) (bt t n (p + 1)) (bt t n (p + 2)) ≠ -1
  · have eK : tkK t n p = z43 (t p) (bt t n (p + 1)) (bt t n (p + 2)) := by unfold tkK; rw [if_neg h1, if_neg h2, if_neg h3, if_pos h4]
    have eE : tkE t n p = p + 3 := by unfold tkE; rw [if_neg h1, if_neg h2, if_neg h3, if_pos h4]
    have eN : nmW t n p = [t p, t (p + 1), t (p + 2)] := by unfold nmW; rw [eE, show p + 3 - p = 3 by omega, seg_3]
    rw [eK, eN, eE]
    unfold z43 at h4 ⊢
    by_cases c1 : bt t n (p + 1) = 61 ∧ bt t n (p + 2) = 62 ∧ t p = 61
    · obtain ⟨a1, a2⟩ := bt_pos (by decide) c1.1
      obtain ⟨b1, b2⟩ := bt_pos (by decide) c1.2.1
      rw [if_pos c1, a2, b2, c1.2.2]
      exact ⟨rfl, rfl, by omega⟩
    · rw [if_neg c1] at h4 ⊢
      by_cases c2 : bt t n (p + 1) = 61 ∧ bt t n (p + 2) = 62 ∧ t p = 60
      · obtain ⟨a1, a2⟩ := bt_pos (by decide) c2.1
        obtain ⟨b1, b2⟩ := bt_pos (by decide) c2.2.1
        rw [if_pos c2, a2, b2, c2.2.2]
        exact ⟨rfl, rfl, by omega⟩
      · rw [if_neg c2] at h4
        exact absurd rfl h4
  by_cases h5 : z44 (t p) (bt t n (p + 1)) ≠ -1
  · have eK : tkK t n p = z44 (t p) (bt t n (p + 1)) := by unfold tkK; rw [if_neg h1, if_neg h2, if_neg h3, if_neg h4, if_pos h5]
    have eE : tkE t n p = p + 2 := by unfold tkE; rw [if_neg h1, if_neg h2, if_neg h3, if_neg h4, if_pos h5]
    have eN : nmW t n p = [t p, t (p + 1)] := by unfold nmW; rw [eE, show p + 2 - p = 2 by omega, seg_2]
    rw [eK] at hk
    rw [eK, eN, eE]
    have two : ∀ (a b : Int) (k : Int), b ≠ 0 → (t p = a ∧ bt t n (p + 1) = b) → opN k = [a, b] → ([t p, t (p + 1)] = opN k ∧ p + [t p, t (p + 1)].length = p + 2 ∧ p + 2 ≤ n) := fun a b k hb h ho => by
      obtain ⟨a1, a2⟩ := bt_pos hb h.2
      rw [h.1, a2, ho]
      exact ⟨rfl, rfl, by omega⟩
    unfold z44 at hk ⊢
    by_cases c1 : t p = 60 ∧ bt t n (p + 1) = 61
    · rw [if_pos c1]; exact two 60 61 20 (by decide) c1 rfl
    rw [if_neg c1] at hk ⊢
    by_cases c2 : t p = 60 ∧ bt t n (p + 1) = 45
    · rw [if_pos c2] at hk; omega
    rw [if_neg c2] at hk ⊢
    by_cases c3 : t p = 45 ∧ bt t n (p + 1) = 62
    · rw [if_pos c3] at hk; omega
    rw [if_neg c3] at hk ⊢
    by_cases c4 : t p = 47 ∧ bt t n (p + 1) = 92
    · rw [if_pos c4]; exact two 47 92 17 (by decide) c4 rfl
    rw [if_neg c4] at hk ⊢
    by_cases c5 : t p = 92 ∧ bt t n (p + 1) = 47
    · rw [if_pos c5]; exact two 92 47 16 (by decide) c5 rfl
    rw [if_neg c5] at hk
    split at hk <;> omega
  · have eK : tkK t n p = z45 (t p) := by unfold tkK; rw [if_neg h1, if_neg h2, if_neg h3, if_neg h4, if_neg h5]
    have eE : tkE t n p = p + 1 := by unfold tkE; rw [if_neg h1, if_neg h2, if_neg h3, if_neg h4, if_neg h5]
    have eN : nmW t n p = [t p] := by unfold nmW; rw [eE, show p + 1 - p = 1 by omega, seg_1]
    rw [eK] at hk
    rw [eK, eN, eE]
    exact ⟨z45_op _ hk, rfl, by omega⟩
def okN (l : List Int) : Prop := l.length ≤ 3 ∧ 0 < l.length ∧ ∀ c ∈ l, 1 ≤ c ∧ c < 128
theorem ite_ok {c : Prop} [Decidable c] {a b : List Int} (ha : okN a) (hb : okN b) : okN (if c then a else b) := by
  split
  · exact ha
  · exact hb
theorem opN_ok (k : Int) : (opN k).length ≤ 3 ∧ 0 < (opN k).length ∧ ∀ c ∈ opN k, 1 ≤ c ∧ c < 128 := ite_ok ⟨by decide, by decide, by decide⟩ (ite_ok ⟨by decide, by decide, by decide⟩ (ite_ok ⟨by decide, by decide, by decide⟩ (ite_ok ⟨by decide, by decide, by decide⟩ (ite_ok ⟨by decide, by decide, by decide⟩ (ite_ok ⟨by decide, by decide, by decide⟩ (ite_ok ⟨by decide, by decide, by decide⟩ (ite_ok ⟨by decide, by decide, by decide⟩ (ite_ok ⟨by decide, by decide, by decide⟩ (ite_ok ⟨by decide, by decide, by decide⟩ (ite_ok ⟨by decide, by decide, by decide⟩ (ite_ok ⟨by decide, by decide, by decide⟩ (⟨by decide, by decide, by decide⟩))))))))))))
/-- a text that can name a constant: the bytes and the length -/
theorem co_nm {t : Nat → Int} {n p : Nat} {s : aZ} (hT : XT t n s) (hp : p < n) (hF : tkF t n p = 0) (hk : tkK t n p = 1 ∨ (10 ≤ tkK t n p ∧ tkK t n p ≤ 22)) : Sg (zz s 2) p (nmW t n p) ∧ p + (nmW t n p).length = tkE t n p ∧ tkE t n p ≤ n ∧ VN (nmW t n p) ∧ 0 < (nmW t n p).length := by
  rcases hk with hk | hk
  · have hz := tkK1 hk
    obtain ⟨v1, v2, v3, v4⟩ := nmW_ok hp hF hz
    exact ⟨nmW_sg hT hp hF hz, v2, (tkE_le hp hF).2, v1, v4⟩
  · obtain ⟨a1, a2, a3⟩ := tk_op hp hk
    obtain ⟨o1, o2, o3⟩ := opN_ok (tkK t n p)
    rw [← a1] at o1 o2 o3
    refine ⟨fun j hj => ?_, a2, a3, ⟨by omega, o3⟩, o2⟩
    have hm : (nmW t n p).getD j 0 ∈ nmW t n p := by
      rw [List.getD_eq_getElem?_getD, List.getElem?_eq_getElem hj]
      exact List.getElem_mem hj
    have hc := o3 _ hm
    have hg : (nmW t n p).getD j 0 = t (p + j) := by unfold nmW; exact seg_get _ _ _ _ (by unfold nmW at hj; rw [seg_len] at hj; exact hj)
    rw [(hT.2.2 (p + j) (by omega)).1, hg]
    rw [hg] at hc
    unfold sb
    rw [if_pos (by omega)]
/-- the place behind a type has been looked at -/
theorem pty0_ft (t : Nat → Int) (n : Nat) : ∀ (N dep i : Nat) (T : aT) (j : Nat), pty t n N 0 dep i = some (.inr (T, j)) → ftT t n j = 0 := by
  intro N
  induction N with
  | zero => intro dep i T j h; exact absurd (show (none : aPr) = some _ from h) (by intro h; cases h)
  | succ N ih =>
    intro dep i T j h
    rw [pty_0] at h
    rcases pLk_some h with ⟨c, e⟩ | ⟨h0, h⟩
    · cases e
    rcases pBd_some h with ⟨e, q1, q2⟩ | ⟨a, j1, q1, q2⟩
    · cases q2
    unfold pA at q2
    rcases pLk_some q2 with ⟨c, e⟩ | ⟨g0, q2⟩
    · cases e
    by_cases k8 : kdT t n j1 = 8
    · rw [if_pos k8] at q2
      rcases pBd_some q2 with ⟨e, r1, r2⟩ | ⟨b, j2, r1, r2⟩
      · cases r2
      · cases r2
        exact ih dep (j1 + 1) b _ r1
    · rw [if_neg k8] at q2
      cases q2
      exact g0
