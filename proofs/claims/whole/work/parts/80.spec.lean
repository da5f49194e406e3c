/-! HOW TYPES AND TERMS PARSE, over token numbers -/
/-- trees: a leaf (what, number), a branch (what, two parts) -/
abbrev aT : Type := Lean.RArray (Nat × Nat)
abbrev aPr : Type := Option ((Int × Nat) ⊕ (aT × Nat))
def pBd (r : aPr) (k : aT → Nat → aPr) : aPr := match r with
  | some (.inr q) => k q.1 q.2
  | some (.inl q) => some (.inl q)
  | none => none
/-- token i is looked at: its fault, or what follows -/
def pLk (t : Nat → Int) (n i : Nat) (r : aPr) : aPr := if ftT t n i ≠ 0 then some (.inl (ftT t n i, i)) else r
/-- types: fuel; 0 a type, 1 an atom, 2 what stands in parentheses (the place is at the left one), 3 what a name takes; depth; place.
leaf (0, i): the variable that token i names; branch (4 i + 1): the name at token i, with what it takes (leaf (1, 0) none, branch 2 one and the rest); branch 3: a function -/
def pty (t : Nat → Int) (n : Nat) : Nat → Nat → Nat → Nat → aPr
  | 0, _, _, _ => none
  | N + 1, m, dep, i => pLk t n i (
    if m = 0 then pBd (pty t n N 1 dep i) (fun a j => pLk t n j (if kdT t n j = 8 then pBd (pty t n N 0 dep (j + 1)) (fun b k => some (.inr (.branch 3 a b, k))) else some (.inr (a, j))))
    else if m = 1 then (if kdT t n i = 4 then pty t n N 2 dep i else if kdT t n i = 2 then some (.inr (.leaf (0, i), i + 1)) else if kdT t n i = 1 then pBd (pty t n N 3 dep (i + 1)) (fun a j => some (.inr (.branch (4 * i + 1) a (.leaf (1, 0)), j))) else some (.inl (2, i)))
    else if m = 2 then pLk t n (i + 1) (if 40 ≤ dep then some (.inl (8, i + 1)) else pBd (pty t n N 0 (dep + 1) (i + 1)) (fun a j => pLk t n j (if kdT t n j = 5 then some (.inr (a, j + 1)) else some (.inl (2, j)))))
    else (if kdT t n i = 1 then pBd (pty t n N 3 dep (i + 1)) (fun r j => some (.inr (.branch 2 (.branch (4 * i + 1) (.leaf (1, 0)) (.leaf (1, 0))) r, j)))
      else if kdT t n i = 2 then pBd (pty t n N 3 dep (i + 1)) (fun r j => some (.inr (.branch 2 (.leaf (0, i)) r, j)))
      else if kdT t n i = 4 then pBd (pty t n N 2 dep i) (fun a j => pBd (pty t n N 3 dep j) (fun r k => some (.inr (.branch 2 a r, k))))
      else some (.inr (.leaf (1, 0), i))))
/-- symbols and height of a written type; of a row of them their sum and most -/
def tyW : aT → Nat
  | .leaf q => if q.1 = 1 then 0 else 1
  | .branch m a b => if m = 2 then tyW a + tyW b else 1 + (tyW a + tyW b)
def tyH : aT → Nat
  | .leaf q => if q.1 = 1 then 0 else 1
  | .branch m a b => if m = 2 then max (tyH a) (tyH b) else 1 + max (tyH a) (tyH b)
theorem pBd_some {r : aPr} {k : aT → Nat → aPr} {q : (Int × Nat) ⊕ (aT × Nat)} (h : pBd r k = some q) : (∃ e, r = some (.inl e) ∧ q = .inl e) ∨ (∃ a j, r = some (.inr (a, j)) ∧ k a j = some q) := by
  unfold pBd at h
  split at h
  · rename_i q1
    exact Or.inr ⟨q1.1, q1.2, rfl, h⟩
  · rename_i q1
    cases h
    exact Or.inl ⟨q1, rfl, rfl⟩
  · cases h
theorem pBd_mono {r r2 : aPr} {k k2 : aT → Nat → aPr} {q : (Int × Nat) ⊕ (aT × Nat)} (h : pBd r k = some q) (hr : ∀ q, r = some q → r2 = some q) (hk : ∀ a j q, k a j = some q → k2 a j = some q) : pBd r2 k2 = some q := by
  rcases pBd_some h with ⟨e, h1, rfl⟩ | ⟨a, j, h1, h2⟩
  · rw [hr _ h1]
    rfl
  · rw [hr _ h1]
    exact hk a j q h2
theorem pLk_mono {t : Nat → Int} {n i : Nat} {r r2 : aPr} {q : (Int × Nat) ⊕ (aT × Nat)} (h : pLk t n i r = some q) (hr : ∀ q, r = some q → r2 = some q) : pLk t n i r2 = some q := by
  unfold pLk at h ⊢
  split
  · rename_i h1
    rw [if_pos h1] at h
    exact h
  · rename_i h1
    rw [if_neg h1] at h
    exact hr q h
