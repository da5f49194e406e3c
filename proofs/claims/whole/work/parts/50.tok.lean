/-! TOKENS, as the document has them: bytes 0 to 255, their number -/
def sb (u : Int) : Int := if u < 128 then u else u - 256
theorem inR_sb {u : Int} (h : 0 ≤ u ∧ u < 256) : inR (sb u) := by constructor <;> (unfold sb; omega)
theorem z27_sb {u : Int} (h : 0 ≤ u ∧ u < 256) : z27 (sb u) = z27 u := by unfold z27 sb; omega
theorem z31_sb {u : Int} (h : 0 ≤ u ∧ u < 256) : z31 (sb u) = z31 u := by unfold z31 sb; omega
theorem z34_sb {u : Int} (h : 0 ≤ u ∧ u < 256) : z34 (sb u) = z34 u := by unfold z34 sb; omega
theorem z43_sb {u v w : Int} (h : 0 ≤ u ∧ u < 256) (h1 : 0 ≤ v ∧ v < 256) (h2 : 0 ≤ w ∧ w < 256) : z43 (sb u) (sb v) (sb w) = z43 u v w := by unfold z43 sb; omega
theorem z44_sb {u v : Int} (h : 0 ≤ u ∧ u < 256) (h1 : 0 ≤ v ∧ v < 256) : z44 (sb u) (sb v) = z44 u v := by unfold z44 sb; omega
theorem z45_sb {u : Int} (h : 0 ≤ u ∧ u < 256) : z45 (sb u) = z45 u := by unfold z45 sb; omega
theorem sb_0 : sb 0 = 0 := rfl
theorem sb_c {u : Int} (h : 0 ≤ u ∧ u < 256) (c : Int) (hc : 0 ≤ c ∧ c < 128) : sb u = c ↔ u = c := by unfold sb; omega
/-- the text as the reader has it -/
def XT (t : Nat → Int) (n : Nat) (s : aZ) : Prop := zz s 1 3 = n ∧ n ≤ 8000 ∧ ∀ j, j < n → zz s 2 j = sb (t j) ∧ 0 ≤ t j ∧ t j < 256
def nb (t : Nat → Int) : Nat → Nat → Bool → Nat
  | 0, p, _ => p
  | k + 1, p, r => if r = true ∨ z27 (t p) ≠ 0 ∨ t p = 35 then nb t k (p + 1) ((r || decide (t p = 35)) && decide (t p ≠ 10)) else p
theorem nb_s (t : Nat → Int) (k p : Nat) (r : Bool) : nb t (k + 1) p r = if r = true ∨ z27 (t p) ≠ 0 ∨ t p = 35 then nb t k (p + 1) ((r || decide (t p = 35)) && decide (t p ≠ 10)) else p := rfl
theorem nb_blank {t : Nat → Int} {k p : Nat} (h : z27 (t p) ≠ 0) : nb t (k + 1) p false = nb t k (p + 1) false := by
  have h35 : t p ≠ 35 := by intro e; apply h; unfold z27; omega
  rw [nb_s]
  rw [if_pos (Or.inr (Or.inl h)), decide_eq_false h35, Bool.or_false, Bool.false_and]
theorem nb_hash {t : Nat → Int} {k p : Nat} (h : t p = 35) : nb t (k + 1) p false = nb t k (p + 1) true := by
  rw [nb_s]
  rw [if_pos (Or.inr (Or.inr h)), h]
  rfl
theorem nb_in {t : Nat → Int} {k p : Nat} (h : t p ≠ 10) : nb t (k + 1) p true = nb t k (p + 1) true := by
  rw [nb_s]
  rw [if_pos (Or.inl rfl), Bool.true_or, Bool.true_and, decide_eq_true h]
theorem nb_nl {t : Nat → Int} {k p : Nat} (h : t p = 10) : nb t (k + 1) p true = nb t k (p + 1) false := by
  rw [nb_s, if_pos (Or.inl rfl), h]
  rfl
theorem nb_out {t : Nat → Int} {k p : Nat} (h : t p = 10) : nb t (k + 1) p true = nb t (k + 1) p false := by
  rw [nb_blank (by unfold z27; rw [if_pos (by omega)]; decide), nb_nl h]
theorem nb_none {t : Nat → Int} {k p : Nat} (h : z27 (t p) = 0) (h2 : t p ≠ 35) : nb t (k + 1) p false = p := by
  rw [nb_s]
  rw [if_neg (by rintro (e | e | e); exact absurd e (by decide); exact e h; exact h2 e)]
theorem nb_ge (t : Nat → Int) : ∀ (k p : Nat) (r : Bool), p ≤ nb t k p r ∧ nb t k p r ≤ p + k := by
  intro k
  induction k with
  | zero => intro p r; exact ⟨Nat.le_refl _, Nat.le_refl _⟩
  | succ k ih =>
    intro p r
    unfold nb
    split
    · have := ih (p + 1) ((r || decide (t p = 35)) && decide (t p ≠ 10))
      omega
    · omega
def wd (t : Nat → Int) : Nat → Nat → Nat
  | 0, p => p
  | k + 1, p => if z31 (t p) ≠ 0 ∨ z34 (t p) ≠ 0 ∨ t p = 39 then wd t k (p + 1) else p
theorem wd_s (t : Nat → Int) (k p : Nat) : wd t (k + 1) p = if z31 (t p) ≠ 0 ∨ z34 (t p) ≠ 0 ∨ t p = 39 then wd t k (p + 1) else p := rfl
theorem wd_ge (t : Nat → Int) : ∀ (k p : Nat), p ≤ wd t k p ∧ wd t k p ≤ p + k := by
  intro k
  induction k with
  | zero => intro p; exact ⟨Nat.le_refl _, Nat.le_refl _⟩
  | succ k ih =>
    intro p
    unfold wd
    split
    · have := ih (p + 1)
      omega
    · omega
def dgE (t : Nat → Int) : Nat → Nat → Nat
  | 0, p => p
  | k + 1, p => if z34 (t p) ≠ 0 then dgE t k (p + 1) else p
theorem dgE_s (t : Nat → Int) (k p : Nat) : dgE t (k + 1) p = if z34 (t p) ≠ 0 then dgE t k (p + 1) else p := rfl
theorem dgE_ge (t : Nat → Int) : ∀ (k p : Nat), p ≤ dgE t k p ∧ dgE t k p ≤ p + k := by
  intro k
  induction k with
  | zero => intro p; exact ⟨Nat.le_refl _, Nat.le_refl _⟩
  | succ k ih =>
    intro p
    unfold dgE
    split
    · have := ih (p + 1)
      omega
    · omega
def dgV (t : Nat → Int) : Nat → Nat → Int → Int
  | 0, _, v => v
  | k + 1, p, v => if z34 (t p) ≠ 0 then dgV t k (p + 1) (min (v * 10 + t p - 48) 50) else v
theorem dgV_s (t : Nat → Int) (k p : Nat) (v : Int) : dgV t (k + 1) p v = if z34 (t p) ≠ 0 then dgV t k (p + 1) (min (v * 10 + t p - 48) 50) else v := rfl
theorem z34_iff (c : Int) : z34 c ≠ 0 ↔ 48 ≤ c ∧ c ≤ 57 := by unfold z34; omega
theorem dgV_rng (t : Nat → Int) : ∀ (k p : Nat) (v : Int), 0 ≤ v ∧ v ≤ 50 → 0 ≤ dgV t k p v ∧ dgV t k p v ≤ 50 := by
  intro k
  induction k with
  | zero => intro p v h; exact h
  | succ k ih =>
    intro p v h
    unfold dgV
    split
    · rename_i h1
      rw [z34_iff] at h1
      exact ih _ _ (by omega)
    · exact h
/-- the byte there, 0 behind the text -/
def bt (t : Nat → Int) (n p : Nat) : Int := if p < n then t p else 0
/-- kind, end, fault and number of the token that begins at p -/
def tkK (t : Nat → Int) (n p : Nat) : Int :=
  if z31 (t p) ≠ 0 then (if wd t (n - p) p = p + 2 ∧ ((t p = 98 ∧ t (p + 1) = 121) ∨ (t p = 105 ∧ t (p + 1) = 110)) then 23 else 1)
  else if t p = 39 then 2
  else if z34 (t p) ≠ 0 then 3
  else if z43 (t p) (bt t n (p + 1)) (bt t n (p + 2)) ≠ -1 then z43 (t p) (bt t n (p + 1)) (bt t n (p + 2))
  else if z44 (t p) (bt t n (p + 1)) ≠ -1 then z44 (t p) (bt t n (p + 1)) else z45 (t p)
def tkE (t : Nat → Int) (n p : Nat) : Nat :=
  if z31 (t p) ≠ 0 then wd t (n - p) p
  else if t p = 39 then (if z31 (bt t n (p + 1)) ≠ 0 then wd t (n - (p + 1)) (p + 1) else p)
  else if z34 (t p) ≠ 0 then dgE t (n - p) p
  else if z43 (t p) (bt t n (p + 1)) (bt t n (p + 2)) ≠ -1 then p + 3
  else if z44 (t p) (bt t n (p + 1)) ≠ -1 then p + 2 else p + 1
def tkF (t : Nat → Int) (n p : Nat) : Int :=
  if z31 (t p) ≠ 0 then (if p + 24 < wd t (n - p) p then 8 else 0)
  else if t p = 39 then (if z31 (bt t n (p + 1)) ≠ 0 then (if p + 1 + 24 < wd t (n - (p + 1)) (p + 1) then 8 else 0) else 1)
  else if z34 (t p) ≠ 0 then (if 49 < dgV t (n - p) p 0 then 8 else 0)
  else if tkK t n p = -1 then 1 else 0
