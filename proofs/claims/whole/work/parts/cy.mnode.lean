/-! THE REFERENCE MAKES A NODE OF A TYPE -/
def ndM (s : aZ) (P : Nat) (k a b : Int) : aZ := zu (zu (zu (zu (zu s 64 P k) 65 P a) 66 P b) 67 P (-1)) 56 16 ((P : Int) + 1)
theorem ndM_ne (s : aZ) (P : Nat) (k a b : Int) (c j : Nat) (h : (64 ≤ c ∧ c ≤ 67 ∧ j ≠ P) ∨ ((c < 64 ∨ 67 < c) ∧ (c ≠ 56 ∨ j ≠ 16))) : zz (ndM s P k a b) c j = zz s c j := by
  unfold ndM
  rw [zz_ne _ _ _ _ _ _ (by omega), zz_ne _ _ _ _ _ _ (by omega), zz_ne _ _ _ _ _ _ (by omega), zz_ne _ _ _ _ _ _ (by omega), zz_ne _ _ _ _ _ _ (by omega)]
theorem ndM_at (s : aZ) (P : Nat) (k a b : Int) (hP : P < 60000) (hk : inR k) (ha : inR a) (hb : inR b) : zz (ndM s P k a b) 64 P = k ∧ zz (ndM s P k a b) 65 P = a ∧ zz (ndM s P k a b) 66 P = b ∧ zz (ndM s P k a b) 67 P = -1 ∧ zz (ndM s P k a b) 56 16 = ((P + 1 : Nat) : Int) := by
  unfold ndM
  refine ⟨?_, ?_, ?_, ?_, ?_⟩
  · rw [zz_ne _ _ _ _ _ _ (by omega), zz_ne _ _ _ _ _ _ (by omega), zz_ne _ _ _ _ _ _ (by omega), zz_ne _ _ _ _ _ _ (by omega), zz_same _ _ _ hk]
  · rw [zz_ne _ _ _ _ _ _ (by omega), zz_ne _ _ _ _ _ _ (by omega), zz_ne _ _ _ _ _ _ (by omega), zz_same _ _ _ ha]
  · rw [zz_ne _ _ _ _ _ _ (by omega), zz_ne _ _ _ _ _ _ (by omega), zz_same _ _ _ hb]
  · rw [zz_ne _ _ _ _ _ _ (by omega), zz_same _ _ _ (by decide)]
  · rw [zz_same _ _ _ ⟨by omega, by omega⟩]
    rfl
section
variable {P : Nat} {ar : Int → Nat} {rt u : Nat → Nat} {s : aZ}
theorem PEm.new (hE : PEm ar P s rt u) (h0 : 0 < P) (hP : P < 60000) (k a b : Int) (hk : inR k) (hkr : -2000000 ≤ k) (ha : -1 ≤ a ∧ a < P) (hb : -1 ≤ b ∧ b < P) (hc : (k ≠ unM → (0 ≤ a ↔ 1 ≤ ar k) ∧ (0 ≤ b ↔ 2 ≤ ar k)) ∧ (k = unM → a < 0 ∧ b < 0)) : PEm ar (P + 1) (ndM s P k a b) (rtB P rt) (uB P u) ∧ ∀ v, Vl unM (P + 1) (vwM (ndM s P k a b)) v ↔ (Vl unM P (vwM s) v ∧ (k ≠ unM → v P = .branch (enc k) (ptT v a) (ptT v b))) := by
  obtain ⟨h1, h2, h3, h4⟩ := hE
  have ne := fun c j h => ndM_ne s P k a b c j h
  obtain ⟨n1, n2, n3, n4, n5⟩ := ndM_at s P k a b hP hk ⟨by omega, by omega⟩ ⟨by omega, by omega⟩
  generalize ndM s P k a b = s2 at *
  have e1 : ∀ j, j < P → (vwM s2).1 j = (vwM s).1 j ∧ (vwM s2).2.1 j = (vwM s).2.1 j ∧ (vwM s2).2.2.1 j = (vwM s).2.2.1 j ∧ (vwM s2).2.2.2 j = (vwM s).2.2.2 j := fun j hj => ⟨by
    show (if zz s2 67 j = -1 then j else (zz s2 67 j).toNat) = (if zz s 67 j = -1 then j else (zz s 67 j).toNat)
    rw [ne 67 j (by omega)], ne 64 j (by omega), ne 65 j (by omega), ne 66 j (by omega)⟩
  have v1 : (vwM s2).1 P = P := if_pos n4
  have e2 : ∀ j, P ≤ j → j < P + 1 → (vwM s2).1 j = j := fun j a b => by rw [show j = P by omega]; exact v1
  have hPM : PMr (P + 1) s2 := by
    refine ⟨n5, fun j hj => ?_⟩
    by_cases e : j = P
    · rw [e, n2, n3, n4]
      omega
    · rw [ne 65 j (by omega), ne 66 j (by omega), ne 67 j (by omega)]
      have := h1.2 j (by omega)
      omega
  have hU1 : ∀ j, j < P → (vwM s).1 j < P := fun j hj => (h2 j hj).1
  refine ⟨⟨hPM, h2.blk h0 (Nat.le_succ P) (fun j hj => (e1 j hj).1) e2, ⟨fun j hj => ?_, fun j hj => ?_⟩, fun j hj hn => ?_⟩, fun v => ⟨fun hV => ⟨hV.cut (Nat.le_succ P) e1, fun hkn => ?_⟩, fun h => ?_⟩⟩
  · refine ⟨(hPM.2 j hj).1, (hPM.2 j hj).2.1, ?_⟩
    by_cases e : j = P
    · rw [e]; show -2000000 ≤ zz s2 64 P; omega
    · rw [(e1 j (by omega)).2.1]; exact (h3.1 j (by omega)).2.2
  · by_cases e : j = P
    · subst e
      rw [show (vwM s2).2.1 j = k from n1, show (vwM s2).2.2.1 j = a from n2, show (vwM s2).2.2.2 j = b from n3]
      exact hc
    · obtain ⟨-, a2, a3, a4⟩ := e1 j (by omega)
      rw [a2, a3, a4]
      exact h3.2 j (by omega)
  · by_cases e : j < P
    · obtain ⟨a1, a2, a3, a4⟩ := e1 j e
      have hr := (h2 j e).2.1
      obtain ⟨b1, b2, b3, b4⟩ := e1 (rt j) hr
      rw [show rtB P rt j = rt j from if_pos e, a2, b2, a3, a4, b3, b4]
      rw [a2] at hn
      obtain ⟨c1, c2, c3⟩ := h4 j e hn
      obtain ⟨g1, g2, -⟩ := h3.1 j e
      obtain ⟨k1, k2, -⟩ := h3.1 (rt j) hr
      have p : ∀ x : Int, -1 ≤ x → x < P → prt (rtB P rt) x = prt rt x := fun x q1 q2 => by
        unfold prt
        by_cases q : x < 0
        · rw [if_pos q, if_pos q]
        · rw [if_neg q, if_neg q, show rtB P rt x.toNat = rt x.toNat from if_pos (by omega)]
      rw [p _ g1.1 g1.2, p _ g2.1 g2.2, p _ k1.1 k1.2, p _ k2.1 k2.2]
      exact ⟨c1, c2, c3⟩
    · rw [show rtB P rt j = j from if_neg e]
      exact ⟨rfl, rfl, rfl⟩
  · have := (hV P (Nat.lt_succ_self _)).2 (by show zz s2 64 P ≠ unM; rw [n1]; exact hkn)
    rw [show (vwM s2).2.1 P = k from n1, show (vwM s2).2.2.1 P = a from n2, show (vwM s2).2.2.2 P = b from n3] at this
    exact this
  · intro j hj
    by_cases e : j = P
    · subst e
      refine ⟨by rw [v1], fun hkn => ?_⟩
      rw [show (vwM s2).2.1 j = k from n1] at hkn
      rw [show (vwM s2).2.1 j = k from n1, show (vwM s2).2.2.1 j = a from n2, show (vwM s2).2.2.2 j = b from n3]
      exact h.2 hkn
    · obtain ⟨a1, a2, a3, a4⟩ := e1 j (by omega)
      rw [a1, a2, a3, a4]
      exact h.1 j (by omega)
end
