/-! HOW MANY TYPE VARIABLES A TEXT CAN NAME -/
def Uc (ns : List (List Int)) : Nat := tot ns + 2 * ns.length
theorem Uc_adn (ns : List (List Int)) (nm : List Int) : Uc (adn ns nm) ≤ Uc ns + nm.length + 2 := by
  unfold adn
  split
  · unfold Uc
    rw [tot_app, List.length_append]
    simp
    omega
  · omega
/-- no letter, digit or quote stands behind a word -/
theorem wd_stop (t : Nat → Int) : ∀ k p, wd t k p < p + k → t (wd t k p) ≠ 39 := by
  intro k
  induction k with
  | zero => intro p h; have := wd_ge t 0 p; omega
  | succ k ih =>
    intro p h
    rw [wd_s] at h ⊢
    split
    · rename_i h1
      rw [if_pos h1] at h
      exact ih (p + 1) (by omega)
    · rename_i h1
      exact fun e => h1 (Or.inr (Or.inr e))
theorem tkE_ge (t : Nat → Int) (n p : Nat) : p ≤ tkE t n p := by
  unfold tkE
  have h1 := wd_ge t (n - p) p
  have h2 := wd_ge t (n - (p + 1)) (p + 1)
  have h3 := dgE_ge t (n - p) p
  repeat' split
  all_goals omega
theorem tkE_n {t : Nat → Int} {n p : Nat} (hp : p < n) : tkE t n p ≤ n := by
  unfold tkE
  have h1 := wd_ge t (n - p) p
  have h2 := wd_ge t (n - (p + 1)) (p + 1)
  have h3 := dgE_ge t (n - p) p
  split
  · omega
  · split
    · split <;> omega
    · split
      · omega
      · split
        · rename_i h4
          have : p + 2 < n := by
            apply Decidable.byContradiction
            intro hn
            apply h4
            unfold z43 bt
            rw [if_neg hn]
            omega
          omega
        · split
          · rename_i h4
            have : p + 1 < n := by
              apply Decidable.byContradiction
              intro hn
              apply h4
              unfold z44 bt
              rw [if_neg hn]
              omega
            omega
          · omega
/-- a token that isn't a quote goes on by one at least -/
theorem tkE_gt {t : Nat → Int} {n p : Nat} (hp : p < n) (h39 : t p ≠ 39) : p < tkE t n p := by
  unfold tkE
  split
  · rename_i h
    obtain ⟨k, hk⟩ : ∃ k, n - p = k + 1 := ⟨n - p - 1, by omega⟩
    rw [hk, wd_s, if_pos (Or.inl h)]
    have := wd_ge t k (p + 1)
    omega
  · split
    · rename_i h
      obtain ⟨k, hk⟩ : ∃ k, n - p = k + 1 := ⟨n - p - 1, by omega⟩
      rw [hk, dgE_s, if_pos h]
      have := dgE_ge t k (p + 1)
      omega
    · repeat' split
      all_goals omega
def QU (t : Nat → Int) (n : Nat) (u : Nat) (ns : List (List Int)) (e : Nat) : Prop := Uc ns ≤ u + e ∨ (Uc ns ≤ u + e + 1 ∧ (n ≤ e ∨ t e ≠ 39))
theorem tkNs_step {t : Nat → Int} {n p e u : Nat} {ns : List (List Int)} (hp : p < n) (hep : e ≤ p) (h : QU t n u ns e) : QU t n u (tkNs t n p ns) (tkE t n p) := by
  have hge := tkE_ge t n p
  have hbase : t p = 39 → Uc ns ≤ u + p := by
    intro h39
    rcases h with h | ⟨h1, h2⟩
    · omega
    · rcases Nat.lt_or_ge e p with q | q
      · omega
      · have : e = p := by omega
        subst this
        rcases h2 with h2 | h2
        · omega
        · exact absurd h39 h2
  unfold tkNs
  by_cases hc : tkK t n p = 2 ∧ tkF t n p = 0
  · rw [if_pos hc]
    by_cases hz1 : z31 (t p) ≠ 0
    · exfalso
      have := hc.1
      unfold tkK at this
      rw [if_pos hz1] at this
      split at this <;> exact absurd this (by decide)
    · by_cases h39 : t p = 39
      · have hu := hbase h39
        have hE := tkE_le hp hc.2
        have hF := hc.2
        unfold tkF at hF
        rw [if_neg hz1, if_pos h39] at hF
        split at hF
        · rename_i hl
          have eE : tkE t n p = wd t (n - (p + 1)) (p + 1) := by unfold tkE; rw [if_neg hz1, if_pos h39, if_pos hl]
          have hlen : (nmT t n p).length = wd t (n - (p + 1)) (p + 1) - (p + 1) := seg_len _ _ _
          have hw := wd_ge t (n - (p + 1)) (p + 1)
          have hadn := Uc_adn ns (nmT t n p)
          refine Or.inr ⟨by omega, ?_⟩
          by_cases hn : n ≤ tkE t n p
          · exact Or.inl hn
          · refine Or.inr ?_
            rw [eE]
            exact wd_stop t _ _ (by omega)
        · exact absurd hF (by decide)
      · exfalso
        by_cases hz : z34 (t p) ≠ 0
        · have := hc.1
          unfold tkK at this
          rw [if_neg hz1, if_neg h39, if_pos hz] at this
          exact absurd this (by decide)
        · exact (tkS_ne hz1 h39 hz).1 hc.1
  · rw [if_neg hc]
    by_cases h39 : t p = 39
    · have := hbase h39
      exact Or.inl (by omega)
    · have := tkE_gt hp h39
      rcases h with h | ⟨h1, h2⟩
      · exact Or.inl (by omega)
      · exact Or.inl (by omega)
theorem cap_U (t : Nat → Int) (n : Nat) (vs : List (List Int)) : ∀ i, (stT t n i < n → ∃ e, e ≤ stT t n i ∧ QU t n (Uc vs) (nsT t n vs i) e) ∧ Uc (nsT t n vs i) ≤ Uc vs + n + 1 := by
  intro i
  induction i with
  | zero => exact ⟨fun _ => ⟨0, Nat.zero_le _, Or.inl (by show Uc vs ≤ _; omega)⟩, by show Uc vs ≤ _; omega⟩
  | succ i ih =>
    obtain ⟨ih1, ih2⟩ := ih
    have hst : tkE t n (stT t n i) ≤ stT t n (i + 1) := (nb_ge t (n - tkE t n (stT t n i)) (tkE t n (stT t n i)) false).1
    have hge := tkE_ge t n (stT t n i)
    have hns : nsT t n vs (i + 1) = nsS t n i (nsT t n vs i) := rfl
    rw [hns]
    unfold nsS
    by_cases hs : stT t n i < n
    · obtain ⟨e, he, hQ⟩ := ih1 hs
      have hE := tkE_n hs (t := t)
      by_cases h6 : i < 6000
      · rw [if_pos ⟨hs, h6⟩]
        have hq := tkNs_step hs he hQ
        refine ⟨fun _ => ⟨_, hst, hq⟩, ?_⟩
        rcases hq with hq | ⟨hq, -⟩ <;> omega
      · rw [if_neg (by omega)]
        exact ⟨fun h => ⟨e, by omega, hQ⟩, ih2⟩
    · rw [if_neg (by omega)]
      exact ⟨fun h => absurd h (by omega), ih2⟩
