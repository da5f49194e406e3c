/-! THE TABLES OF TYPE VARIABLES HAVE ROOM -/
def Dn (ns : List (List Int)) : Prop := ∀ i j, i < j → j < ns.length → ns.getD i [] ≠ ns.getD j []
theorem Dn_adn {ns : List (List Int)} (h : Dn ns) (nm : List Int) : Dn (adn ns nm) := by
  unfold adn
  split
  · rename_i hneg
    intro i j hij hj
    rw [List.length_append] at hj
    simp at hj
    rcases fd_cases ns nm ns.length with ⟨h1, hno⟩ | ⟨k, hk, h1, -⟩
    · by_cases e : j = ns.length
      · rw [e, getD_last, getD_app _ _ _ _ (by omega)]
        exact hno i (by omega)
      · rw [getD_app _ _ _ _ (by omega), getD_app _ _ _ _ (by omega)]
        exact h i j hij (by omega)
    · omega
  · exact h
/-- what each name is -/
def GdN (nm : List Int) : Prop := LtN nm ∧ VN nm
theorem adn_mem {ns : List (List Int)} {nm x : List Int} (h : x ∈ adn ns nm) : x ∈ ns ∨ x = nm := by
  unfold adn at h
  split at h
  · rcases List.mem_append.mp h with h | h
    · exact Or.inl h
    · exact Or.inr (List.mem_singleton.mp h)
  · exact Or.inl h
theorem nmT_Gd {t : Nat → Int} {n p : Nat} (h : tkK t n p = 2 ∧ tkF t n p = 0) : GdN (nmT t n p) := by
  obtain ⟨hK, hF⟩ := h
  have hz1 : ¬ z31 (t p) ≠ 0 := by
    intro hz
    unfold tkK at hK
    rw [if_pos hz] at hK
    split at hK <;> exact absurd hK (by decide)
  have h39 : t p = 39 := by
    apply Decidable.byContradiction
    intro h39
    by_cases hz : z34 (t p) ≠ 0
    · unfold tkK at hK
      rw [if_neg hz1, if_neg h39, if_pos hz] at hK
      exact absurd hK (by decide)
    · exact (tkS_ne hz1 h39 hz).1 hK
  obtain ⟨hv, hl⟩ := nmT_VN hF hz1 h39
  unfold tkF at hF
  rw [if_neg hz1, if_pos h39] at hF
  split at hF
  · rename_i hb
    have hp1 : p + 1 < n := by
      apply Decidable.byContradiction
      intro hn
      unfold bt at hb
      rw [if_neg hn] at hb
      exact hb rfl
    have hb2 : z31 (t (p + 1)) ≠ 0 := by unfold bt at hb; rw [if_pos hp1] at hb; exact hb
    have hw : p + 1 < wd t (n - (p + 1)) (p + 1) := by
      obtain ⟨k, hk⟩ : ∃ k, n - (p + 1) = k + 1 := ⟨n - (p + 1) - 1, by omega⟩
      rw [hk, wd_s, if_pos (Or.inl hb2)]
      have := wd_ge t k (p + 1 + 1)
      omega
    have h0 : (nmT t n p).getD 0 0 = t (p + 1 + 0) := seg_get _ _ _ _ (by omega)
    refine ⟨⟨by omega, ?_, ?_⟩, hv⟩
    · rw [h0, Nat.add_zero]
      rw [z31_iff] at hb2
      omega
    · rw [h0, Nat.add_zero]
      rw [z31_iff] at hb2
      omega
  · exact absurd hF (by decide)
theorem nsT_ok {t : Nat → Int} {n : Nat} {vs : List (List Int)} (hd : Dn vs) (hg : ∀ nm ∈ vs, GdN nm) : ∀ j, Dn (nsT t n vs j) ∧ ∀ nm ∈ nsT t n vs j, GdN nm := by
  intro j
  induction j with
  | zero => exact ⟨hd, hg⟩
  | succ j ih =>
    have e : nsT t n vs (j + 1) = nsS t n j (nsT t n vs j) := rfl
    rw [e]
    unfold nsS tkNs
    split
    · split
      · rename_i hc
        refine ⟨Dn_adn ih.1 _, fun nm h => ?_⟩
        rcases adn_mem h with h | h
        · exact ih.2 nm h
        · rw [h]
          exact nmT_Gd hc
      · exact ih
    · exact ih
/-- the tables have room for a text of n bytes -/
theorem cap_ok {t : Nat → Int} {n : Nat} {vs : List (List Int)} (hd : Dn vs) (hg : ∀ nm ∈ vs, GdN nm) (hU : Uc vs + n + 1 ≤ 10221) : XCap t n vs ∧ MCap t n vs := by
  have key : ∀ j, (nsT t n vs j).length < 3000 ∧ tot (nsT t n vs j) + 24 ≤ 10240 := by
    intro j
    obtain ⟨h1, h2⟩ := nsT_ok hd hg (t := t) (n := n) j
    have h3 := (cap_U t n vs j).2
    exact caps h1 (fun nm h => ⟨(h2 nm h).1, (h2 nm h).2.1⟩) (by omega)
  exact ⟨key, fun j => by have := (key j).1; omega⟩
