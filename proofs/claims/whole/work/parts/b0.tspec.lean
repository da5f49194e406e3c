/-! HOW TERMS PARSE, over token numbers -/
/-- leaf (0, i): the name at token i; leaf (1, k): a sign's constant; leaf (2, v): a numeral; branch 0: an application; branch (4 i + 1): an abstraction of the variable at token i, its type (leaf (3, 0) none), its body; branch 2: a term with a type -/
abbrev aSt : Type := List (Nat × aT)
def apT (f x : aT) : aT := .branch 0 f x
def sgT (k : Nat) : aT := .leaf (1, k)
def opT (o : Nat) (a x : aT) : aT := apT (apT (sgT o) a) x
def noT : aT := .leaf (3, 0)
def abT (i : Nat) (ty b : aT) : aT := .branch (4 * i + 1) ty b
/-- what waits and holds more strongly is applied -/
def stl (g : Int) : aSt → aT → aSt × aT
  | [], x => ([], x)
  | q :: st, x => if z104 (z96 (q.1 : Int)) g ≠ 0 then stl g st (opT q.1 q.2 x) else (q :: st, x)
theorem stl_n (g : Int) (x : aT) : stl g [] x = ([], x) := rfl
theorem stl_c (g : Int) (q : Nat × aT) (st : aSt) (x : aT) : stl g (q :: st) x = if z104 (z96 (q.1 : Int)) g ≠ 0 then stl g st (opT q.1 q.2 x) else (q :: st, x) := rfl
def b1T (k i : Nat) (ty x : aT) : aT := if k = 9 then abT i ty x else apT (sgT k) (abT i ty x)
/-- the variables of a binder, the innermost first -/
def bdT (k : Nat) : aSt → aT → aT
  | [], x => x
  | q :: vs, x => bdT k vs (b1T k q.1 q.2 x)
def top5 : aSt → Bool
  | [] => false
  | q :: _ => decide (z96 (q.1 : Int) = 5)
def kOf : aT → Nat
  | .leaf q => q.2
  | .branch _ _ _ => 0
/-- fuel; 0 an operand and what follows (st waits), 1 behind an operand x, 2 an operand, 3 behind atoms x, 4 an atom, 5 a binder's variable (st: those before; x its sign), 6 behind one; depth; place -/
def ptm (t : Nat → Int) (n : Nat) : Nat → Nat → Nat → aSt → aT → Nat → aPr
  | 0, _, _, _, _, _ => none
  | N + 1, m, dep, st, x, i => pLk t n i (
    if m = 0 then pBd (ptm t n N 2 dep [] noT i) (fun a j => ptm t n N 1 dep st a j)
    else if m = 1 then (if z96 (kdT t n i) = 0 then some (.inr ((stl 0 st x).2, i)) else if z96 (kdT t n i) = 5 ∧ top5 (stl 5 st x).1 = true then some (.inl (2, i)) else ptm t n N 0 dep (((kdT t n i).toNat, (stl (z96 (kdT t n i)) st x).2) :: (stl (z96 (kdT t n i)) st x).1) noT (i + 1))
    else if m = 2 then (if kdT t n i = 13 then pBd (ptm t n N 2 dep [] noT (i + 1)) (fun a j => some (.inr (apT (sgT 13) a, j))) else if z59 (kdT t n i) ≠ 0 then pLk t n (i + 1) (if 40 ≤ dep then some (.inl (8, i + 1)) else ptm t n N 5 (dep + 1) [] (sgT (kdT t n i).toNat) (i + 1)) else pBd (ptm t n N 4 dep [] noT i) (fun a j => ptm t n N 3 dep [] a j))
    else if m = 3 then (if z102 (kdT t n i) ≠ 0 then pBd (ptm t n N 4 dep [] noT i) (fun a j => ptm t n N 3 dep [] (apT x a) j) else some (.inr (x, i)))
    else if m = 4 then (if kdT t n i = 4 then pLk t n (i + 1) (
        if z96 (kdT t n (i + 1)) ≠ 0 ∨ (10 ≤ kdT t n (i + 1) ∧ kdT t n (i + 1) ≤ 13 ∧ stT t n (i + 2) < n ∧ t (stT t n (i + 2)) = 41) then pLk t n (i + 2) (if kdT t n (i + 2) = 5 then some (.inr (sgT (kdT t n (i + 1)).toNat, i + 3)) else some (.inl (2, i + 2)))
        else if 40 ≤ dep then some (.inl (8, i + 1))
        else pBd (ptm t n N 0 (dep + 1) [] noT (i + 1)) (fun a j => if kdT t n j = 6 then pBd (pty t n N 0 (dep + 1) (j + 1)) (fun T k => if kdT t n k = 5 then some (.inr (.branch 2 a T, k + 1)) else some (.inl (2, k))) else if kdT t n j = 5 then some (.inr (a, j + 1)) else some (.inl (2, j))))
      else if kdT t n i = 3 then some (.inr (.leaf (2, (dgV t (n - stT t n i) (stT t n i) 0).toNat), i + 1)) else if kdT t n i = 1 then some (.inr (.leaf (0, i), i + 1)) else some (.inl (2, i)))
    else if m = 5 then (if kdT t n i = 4 then pLk t n (i + 1) (if kdT t n (i + 1) = 1 then pLk t n (i + 2) (if kdT t n (i + 2) = 6 then pBd (pty t n N 0 dep (i + 3)) (fun T j => if kdT t n j = 5 then ptm t n N 6 dep ((i + 1, T) :: st) x (j + 1) else some (.inl (2, j))) else some (.inl (2, i + 2))) else some (.inl (2, i + 1))) else if kdT t n i = 1 then ptm t n N 6 dep ((i, noT) :: st) x (i + 1) else some (.inl (2, i)))
    else (if kdT t n i = 1 ∨ kdT t n i = 4 then ptm t n N 5 dep st x i else if kdT t n i = 7 then pBd (ptm t n N 0 dep [] noT (i + 1)) (fun b j => some (.inr (bdT (kOf x) st b, j))) else some (.inl (2, i))))
section
variable (t : Nat → Int) (n N dep : Nat) (st : aSt) (x : aT) (i : Nat)
theorem ptm_0 : ptm t n (N + 1) 0 dep st x i = pLk t n i (pBd (ptm t n N 2 dep [] noT i) (fun a j => ptm t n N 1 dep st a j)) := rfl
theorem ptm_1 : ptm t n (N + 1) 1 dep st x i = pLk t n i (if z96 (kdT t n i) = 0 then some (.inr ((stl 0 st x).2, i)) else if z96 (kdT t n i) = 5 ∧ top5 (stl 5 st x).1 = true then some (.inl (2, i)) else ptm t n N 0 dep (((kdT t n i).toNat, (stl (z96 (kdT t n i)) st x).2) :: (stl (z96 (kdT t n i)) st x).1) noT (i + 1)) := rfl
theorem ptm_2 : ptm t n (N + 1) 2 dep st x i = pLk t n i (if kdT t n i = 13 then pBd (ptm t n N 2 dep [] noT (i + 1)) (fun a j => some (.inr (apT (sgT 13) a, j))) else if z59 (kdT t n i) ≠ 0 then pLk t n (i + 1) (if 40 ≤ dep then some (.inl (8, i + 1)) else ptm t n N 5 (dep + 1) [] (sgT (kdT t n i).toNat) (i + 1)) else pBd (ptm t n N 4 dep [] noT i) (fun a j => ptm t n N 3 dep [] a j)) := rfl
theorem ptm_3 : ptm t n (N + 1) 3 dep st x i = pLk t n i (if z102 (kdT t n i) ≠ 0 then pBd (ptm t n N 4 dep [] noT i) (fun a j => ptm t n N 3 dep [] (apT x a) j) else some (.inr (x, i))) := rfl
/-- ( S ) -/
def lnS : Prop := z96 (kdT t n (i + 1)) ≠ 0 ∨ (10 ≤ kdT t n (i + 1) ∧ kdT t n (i + 1) ≤ 13 ∧ stT t n (i + 2) < n ∧ t (stT t n (i + 2)) = 41)
/-- what follows a term in ( ) -/
def pIn (a : aT) (j : Nat) : aPr := if kdT t n j = 6 then pBd (pty t n N 0 (dep + 1) (j + 1)) (fun T k => if kdT t n k = 5 then some (.inr (.branch 2 a T, k + 1)) else some (.inl (2, k))) else if kdT t n j = 5 then some (.inr (a, j + 1)) else some (.inl (2, j))
theorem ptm_4 : ptm t n (N + 1) 4 dep st x i = pLk t n i (if kdT t n i = 4 then pLk t n (i + 1) (
        if z96 (kdT t n (i + 1)) ≠ 0 ∨ (10 ≤ kdT t n (i + 1) ∧ kdT t n (i + 1) ≤ 13 ∧ stT t n (i + 2) < n ∧ t (stT t n (i + 2)) = 41) then pLk t n (i + 2) (if kdT t n (i + 2) = 5 then some (.inr (sgT (kdT t n (i + 1)).toNat, i + 3)) else some (.inl (2, i + 2)))
        else if 40 ≤ dep then some (.inl (8, i + 1))
        else pBd (ptm t n N 0 (dep + 1) [] noT (i + 1)) (pIn t n N dep))
      else if kdT t n i = 3 then some (.inr (.leaf (2, (dgV t (n - stT t n i) (stT t n i) 0).toNat), i + 1)) else if kdT t n i = 1 then some (.inr (.leaf (0, i), i + 1)) else some (.inl (2, i))) := rfl
theorem ptm_5 : ptm t n (N + 1) 5 dep st x i = pLk t n i (if kdT t n i = 4 then pLk t n (i + 1) (if kdT t n (i + 1) = 1 then pLk t n (i + 2) (if kdT t n (i + 2) = 6 then pBd (pty t n N 0 dep (i + 3)) (fun T j => if kdT t n j = 5 then ptm t n N 6 dep ((i + 1, T) :: st) x (j + 1) else some (.inl (2, j))) else some (.inl (2, i + 2))) else some (.inl (2, i + 1))) else if kdT t n i = 1 then ptm t n N 6 dep ((i, noT) :: st) x (i + 1) else some (.inl (2, i))) := rfl
theorem ptm_6 : ptm t n (N + 1) 6 dep st x i = pLk t n i (if kdT t n i = 1 ∨ kdT t n i = 4 then ptm t n N 5 dep st x i else if kdT t n i = 7 then pBd (ptm t n N 0 dep [] noT (i + 1)) (fun b j => some (.inr (bdT (kOf x) st b, j))) else some (.inl (2, i))) := rfl
end
/-- symbols and height of a term; nodes of types that it costs; its parts -/
def tmW : aT → Nat
  | .leaf q => if q.1 = 2 then 2 * q.2 + 1 else 1
  | .branch m a b => if m = 0 then 1 + (tmW a + tmW b) else if m = 2 then tmW a else 1 + tmW b
def tmH : aT → Nat
  | .leaf q => if q.1 = 2 then q.2 + 1 else 1
  | .branch m a b => if m = 0 then 1 + max (tmH a) (tmH b) else if m = 2 then tmH a else 1 + tmH b
def csT : aT → Nat
  | .leaf q => if q.1 = 2 then 42 * q.2 + 40 else 40
  | .branch m a b => if m = 0 then 2 + (csT a + csT b) else if m = 2 then csT a else 2 + csT b
def ptN : aT → Nat
  | .leaf _ => 1
  | .branch m a b => if m = 0 then 1 + (ptN a + ptN b) else if m = 2 then 1 + ptN a else 1 + ptN b
def stW : aSt → Nat
  | [] => 0
  | q :: st => tmW q.2 + 3 + stW st
def stC : aSt → Nat
  | [] => 0
  | q :: st => csT q.2 + 44 + stC st
def stN : aSt → Nat
  | [] => 0
  | q :: st => ptN q.2 + 3 + stN st
theorem tmW_ap (f x : aT) : tmW (apT f x) = 1 + (tmW f + tmW x) := rfl
theorem csT_ap (f x : aT) : csT (apT f x) = 2 + (csT f + csT x) := rfl
theorem ptN_ap (f x : aT) : ptN (apT f x) = 1 + (ptN f + ptN x) := rfl
theorem tmH_ap (f x : aT) : tmH (apT f x) = 1 + max (tmH f) (tmH x) := rfl
theorem ab_m (i : Nat) : ¬ 4 * i + 1 = 0 ∧ ¬ 4 * i + 1 = 2 := ⟨by omega, by omega⟩
theorem tmW_ab (i : Nat) (ty b : aT) : tmW (abT i ty b) = 1 + tmW b := by show (if _ then _ else if _ then _ else _) = _; rw [if_neg (ab_m i).1, if_neg (ab_m i).2]
theorem tmH_ab (i : Nat) (ty b : aT) : tmH (abT i ty b) = 1 + tmH b := by show (if _ then _ else if _ then _ else _) = _; rw [if_neg (ab_m i).1, if_neg (ab_m i).2]
theorem csT_ab (i : Nat) (ty b : aT) : csT (abT i ty b) = 2 + csT b := by show (if _ then _ else if _ then _ else _) = _; rw [if_neg (ab_m i).1, if_neg (ab_m i).2]
theorem ptN_ab (i : Nat) (ty b : aT) : ptN (abT i ty b) = 1 + ptN b := by show (if _ then _ else if _ then _ else _) = _; rw [if_neg (ab_m i).1, if_neg (ab_m i).2]
theorem tm_pos : ∀ T : aT, 1 ≤ tmW T ∧ 1 ≤ tmH T ∧ 1 ≤ ptN T := by
  intro T
  induction T with
  | leaf q =>
    show 1 ≤ (if q.1 = 2 then 2 * q.2 + 1 else 1) ∧ 1 ≤ (if q.1 = 2 then q.2 + 1 else 1) ∧ 1 ≤ 1
    split <;> omega
  | branch m a b iha ihb =>
    show 1 ≤ (if m = 0 then 1 + (tmW a + tmW b) else if m = 2 then tmW a else 1 + tmW b) ∧ 1 ≤ (if m = 0 then 1 + max (tmH a) (tmH b) else if m = 2 then tmH a else 1 + tmH b) ∧ 1 ≤ (if m = 0 then 1 + (ptN a + ptN b) else if m = 2 then 1 + ptN a else 1 + ptN b)
    split
    · omega
    · split <;> omega
theorem cs_le : ∀ T : aT, csT T ≤ 21 * tmW T + 19 := by
  intro T
  induction T with
  | leaf q =>
    show (if q.1 = 2 then 42 * q.2 + 40 else 40) ≤ 21 * (if q.1 = 2 then 2 * q.2 + 1 else 1) + 19
    split <;> omega
  | branch m a b iha ihb =>
    show (if m = 0 then 2 + (csT a + csT b) else if m = 2 then csT a else 2 + csT b) ≤ 21 * (if m = 0 then 1 + (tmW a + tmW b) else if m = 2 then tmW a else 1 + tmW b) + 19
    split
    · omega
    · split <;> omega
theorem op_w (o : Nat) (a x : aT) : tmW (opT o a x) = tmW a + 3 + tmW x ∧ csT (opT o a x) = csT a + 44 + csT x ∧ ptN (opT o a x) = ptN a + 3 + ptN x := by
  refine ⟨?_, ?_, ?_⟩
  · show 1 + ((1 + (1 + tmW a)) + tmW x) = _; omega
  · show 2 + ((2 + (40 + csT a)) + csT x) = _; omega
  · show 1 + ((1 + (1 + ptN a)) + ptN x) = _; omega
theorem stl_w (g : Int) : ∀ (st : aSt) (x : aT), stW (stl g st x).1 + tmW (stl g st x).2 = stW st + tmW x ∧ stC (stl g st x).1 + csT (stl g st x).2 = stC st + csT x ∧ stN (stl g st x).1 + ptN (stl g st x).2 = stN st + ptN x ∧ (stl g st x).1.length ≤ st.length := by
  intro st
  induction st with
  | nil => intro x; exact ⟨rfl, rfl, rfl, Nat.le_refl _⟩
  | cons q st ih =>
    intro x
    rw [stl_c]
    split
    · obtain ⟨h1, h2, h3, h4⟩ := ih (opT q.1 q.2 x)
      obtain ⟨w1, w2, w3⟩ := op_w q.1 q.2 x
      rw [w1] at h1
      rw [w2] at h2
      rw [w3] at h3
      refine ⟨?_, ?_, ?_, ?_⟩
      · rw [h1]; show _ = tmW q.2 + 3 + stW st + tmW x; omega
      · rw [h2]; show _ = csT q.2 + 44 + stC st + csT x; omega
      · rw [h3]; show _ = ptN q.2 + 3 + stN st + ptN x; omega
      · rw [List.length_cons]; omega
    · exact ⟨rfl, rfl, rfl, Nat.le_refl _⟩
theorem z104_0 {k : Nat} (h : z96 (k : Int) ≠ 0) : z104 (z96 (k : Int)) 0 ≠ 0 := by
  have : 0 ≤ z96 (k : Int) := by unfold z96; omega
  unfold z104
  rw [if_pos (Or.inl (by omega))]
  decide
/-- at the end nothing waits -/
theorem stl_0 : ∀ (st : aSt) (x : aT), (∀ q ∈ st, z96 (q.1 : Int) ≠ 0) → (stl 0 st x).1 = [] := by
  intro st
  induction st with
  | nil => intro x _; rfl
  | cons q st ih =>
    intro x h
    rw [stl_c, if_pos (z104_0 (h q List.mem_cons_self))]
    exact ih _ (fun r hr => h r (List.mem_cons_of_mem _ hr))
theorem stl_mem (g : Int) : ∀ (st : aSt) (x : aT) (q : Nat × aT), q ∈ (stl g st x).1 → q ∈ st := by
  intro st
  induction st with
  | nil => intro x q h; exact h
  | cons r st ih =>
    intro x q h
    rw [stl_c] at h
    split at h
    · exact List.mem_cons_of_mem _ (ih _ q h)
    · exact h
theorem b1_w (k i : Nat) (ty x : aT) : tmW x + 1 ≤ tmW (b1T k i ty x) ∧ csT x + 2 ≤ csT (b1T k i ty x) ∧ ptN (b1T k i ty x) ≤ ptN x + 3 := by
  unfold b1T
  split
  · rw [tmW_ab, csT_ab, ptN_ab]; omega
  · rw [tmW_ap, csT_ap, ptN_ap, tmW_ab, csT_ab, ptN_ab]
    show _ ∧ _ ∧ 1 + (1 + _) ≤ _
    omega
theorem bd_w (k : Nat) : ∀ (vs : aSt) (x : aT), tmW x + vs.length ≤ tmW (bdT k vs x) ∧ csT x + 2 * vs.length ≤ csT (bdT k vs x) ∧ ptN (bdT k vs x) ≤ ptN x + 3 * vs.length := by
  intro vs
  induction vs with
  | nil => intro x; exact ⟨Nat.le_refl _, Nat.le_refl _, Nat.le_refl _⟩
  | cons q vs ih =>
    intro x
    obtain ⟨h1, h2, h3⟩ := ih (b1T k q.1 q.2 x)
    obtain ⟨w1, w2, w3⟩ := b1_w k q.1 q.2 x
    rw [List.length_cons]
    refine ⟨?_, ?_, ?_⟩
    · show _ ≤ tmW (bdT k vs (b1T k q.1 q.2 x)); omega
    · show _ ≤ csT (bdT k vs (b1T k q.1 q.2 x)); omega
    · show ptN (bdT k vs (b1T k q.1 q.2 x)) ≤ _; omega
