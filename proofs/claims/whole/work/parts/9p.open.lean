/-! OPEN TYPES: where two rows of types have the same instances, they are written alike -/
/-- variables are leaves (2, v) -/
def vrT (v : Nat) : aT := .leaf (2, v)
def sbT (f : Nat → aT) : aT → aT
  | .leaf q => if q.1 = 2 then f q.2 else .leaf q
  | .branch e x y => .branch e (sbT f x) (sbT f y)
theorem sbT_v (f : Nat → aT) (v : Nat) : sbT f (vrT v) = f v := if_pos rfl
theorem sbT_n (f : Nat → aT) (q : Nat × Nat) (h : q.1 ≠ 2) : sbT f (.leaf q) = .leaf q := if_neg h
theorem sbT_b (f : Nat → aT) (e : Nat) (x y : aT) : sbT f (.branch e x y) = .branch e (sbT f x) (sbT f y) := rfl
theorem sbT_id : ∀ T : aT, sbT vrT T = T := by
  intro T
  induction T with
  | leaf q =>
    by_cases h : q.1 = 2
    · obtain ⟨a, b⟩ := q
      have h' : a = 2 := h
      subst h'
      exact sbT_v vrT b
    · exact sbT_n _ _ h
  | branch e x y ihx ihy => rw [sbT_b, ihx, ihy]
theorem leaf2 {q : Nat × Nat} (h : q.1 = 2) : (Lean.RArray.leaf q : aT) = vrT q.2 := by
  obtain ⟨a, b⟩ := q
  have h' : a = 2 := h
  subst h'
  rfl
theorem vrT_inj {v w : Nat} (h : vrT v = vrT w) : v = w := by
  unfold vrT at h
  cases h
  rfl
/-- the place of a variable among those seen -/
def ixV : List Nat → Nat → Nat
  | [], _ => 0
  | a :: l, v => if a = v then 0 else ixV l v + 1
/-- a type is written: a variable that is new takes the next number -/
def wrT : aT → List Nat → List Int × List Nat
  | .leaf q, sn => if q.1 = 2 then (if ixV sn q.2 < sn.length then ([-1 - (ixV sn q.2 : Int)], sn) else ([-1 - (sn.length : Int)], sn ++ [q.2])) else ([], sn)
  | .branch e x y, sn => (dec e :: ((wrT x sn).1 ++ (wrT y (wrT x sn).2).1), (wrT y (wrT x sn).2).2)
def wrL : List aT → List Nat → List (List Int) × List Nat
  | [], sn => ([], sn)
  | T :: Ts, sn => ((wrT T sn).1 :: (wrL Ts (wrT T sn).2).1, (wrL Ts (wrT T sn).2).2)
def szT : aT → Nat
  | .leaf q => if q.1 = 2 then 1 else 0
  | .branch _ x y => 1 + (szT x + szT y)
def hgT : aT → Nat
  | .leaf q => if q.1 = 2 then 1 else 0
  | .branch _ x y => 1 + max (hgT x) (hgT y)
/-- variables that answer to each other -/
def CrV (f g : Nat → aT) (s1 s2 : List Nat) : Prop := s1.length = s2.length ∧ ∀ i, i < s1.length → f (s2.getD i 0) = vrT (s1.getD i 0) ∧ g (s1.getD i 0) = vrT (s2.getD i 0)
theorem ixV_eq : ∀ (s1 s2 : List Nat) (v w : Nat), s1.length = s2.length → (∀ i, i < s1.length → (s1.getD i 0 = v ↔ s2.getD i 0 = w)) → ixV s1 v = ixV s2 w := by
  intro s1
  induction s1 with
  | nil =>
    intro s2 v w hl _
    cases s2 with
    | nil => rfl
    | cons b s2 => exact absurd hl (by rw [List.length_cons, List.length_nil]; omega)
  | cons a s1 ih =>
    intro s2 v w hl h
    cases s2 with
    | nil => exact absurd hl (by rw [List.length_cons, List.length_nil]; omega)
    | cons b s2 =>
      rw [List.length_cons, List.length_cons] at hl
      have h0 : a = v ↔ b = w := h 0 (by rw [List.length_cons]; omega)
      have hi := ih s2 v w (by omega) (fun i hi => h (i + 1) (by rw [List.length_cons]; omega))
      show (if a = v then 0 else ixV s1 v + 1) = (if b = w then 0 else ixV s2 w + 1)
      by_cases e : a = v
      · rw [if_pos e, if_pos (h0.mp e)]
      · rw [if_neg e, if_neg (fun q => e (h0.mpr q)), hi]
theorem getD_snoc {l : List Nat} {x i : Nat} (hi : i < l.length + 1) : (l ++ [x]).getD i 0 = if i < l.length then l.getD i 0 else x := by
  by_cases h : i < l.length
  · rw [if_pos h, getD_app _ _ _ _ h]
  · have e : i = l.length := by omega
    rw [if_neg h, e, getD_last]
theorem wrT_eq {f g : Nat → aT} : ∀ (T1 T2 : aT) (s1 s2 : List Nat), T1 = sbT f T2 → T2 = sbT g T1 → CrV f g s1 s2 → (wrT T1 s1).1 = (wrT T2 s2).1 ∧ CrV f g (wrT T1 s1).2 (wrT T2 s2).2 ∧ szT T1 = szT T2 ∧ hgT T1 = hgT T2 := by
  intro T1
  induction T1 with
  | leaf q =>
    intro T2 s1 s2 h1 h2 hc
    by_cases hq : q.1 = 2
    · rw [leaf2 hq] at h1 h2 ⊢
      generalize q.2 = v at *
      rw [sbT_v] at h2
      cases T2 with
      | branch e x y => rw [sbT_b] at h1; exact absurd h1 (by unfold vrT; intro h; cases h)
      | leaf p =>
        by_cases hp : p.1 = 2
        · rw [leaf2 hp] at h1 h2 ⊢
          generalize p.2 = w at *
          rw [sbT_v] at h1
          have hix : ixV s1 v = ixV s2 w := ixV_eq s1 s2 v w hc.1 (fun i hi => by
            obtain ⟨a, b⟩ := hc.2 i hi
            constructor
            · intro e
              rw [e, ← h2] at b
              exact (vrT_inj b).symm
            · intro e
              rw [e, ← h1] at a
              exact (vrT_inj a).symm)
          have e1 : wrT (vrT v) s1 = if ixV s1 v < s1.length then ([-1 - (ixV s1 v : Int)], s1) else ([-1 - (s1.length : Int)], s1 ++ [v]) := if_pos rfl
          have e2 : wrT (vrT w) s2 = if ixV s2 w < s2.length then ([-1 - (ixV s2 w : Int)], s2) else ([-1 - (s2.length : Int)], s2 ++ [w]) := if_pos rfl
          rw [e1, e2, hix, hc.1]
          by_cases hl : ixV s2 w < s2.length
          · rw [if_pos hl, if_pos hl]
            exact ⟨rfl, hc, rfl, rfl⟩
          · rw [if_neg hl, if_neg hl]
            refine ⟨rfl, ⟨?_, fun i hi => ?_⟩, rfl, rfl⟩
            · show (s1 ++ [v]).length = (s2 ++ [w]).length
              rw [List.length_append, List.length_append, hc.1]
              rfl
            · have hi' : i < s1.length + 1 := by
                have e : (s1 ++ [v]).length = s1.length + 1 := by rw [List.length_append]; rfl
                have hi2 : i < (s1 ++ [v]).length := hi
                omega
              show f ((s2 ++ [w]).getD i 0) = vrT ((s1 ++ [v]).getD i 0) ∧ g ((s1 ++ [v]).getD i 0) = vrT ((s2 ++ [w]).getD i 0)
              rw [getD_snoc hi', getD_snoc (by rw [← hc.1]; exact hi'), ← hc.1]
              by_cases hlt : i < s1.length
              · rw [if_pos hlt, if_pos hlt]
                exact hc.2 i hlt
              · rw [if_neg hlt, if_neg hlt]
                exact ⟨h1.symm, h2.symm⟩
        · rw [sbT_n _ _ hp] at h1
          exfalso
          unfold vrT at h1
          cases h1
          exact hp rfl
    · have e2 : T2 = .leaf q := h2.trans (sbT_n _ _ hq)
      subst e2
      have e : ∀ sn, wrT (.leaf q) sn = ([], sn) := fun sn => if_neg hq
      rw [e, e]
      exact ⟨rfl, hc, rfl, rfl⟩
  | branch e x y ihx ihy =>
    intro T2 s1 s2 h1 h2 hc
    rw [sbT_b] at h2
    subst h2
    rw [sbT_b] at h1
    injection h1 with _ hx hy
    obtain ⟨a1, a2, a3, a4⟩ := ihx (sbT g x) s1 s2 hx rfl hc
    obtain ⟨b1, b2, b3, b4⟩ := ihy (sbT g y) _ _ hy rfl a2
    refine ⟨?_, b2, ?_, ?_⟩
    · show dec e :: (_ ++ _) = dec e :: (_ ++ _)
      rw [a1, b1]
    · show 1 + (szT x + szT y) = 1 + (szT (sbT g x) + szT (sbT g y))
      rw [← a3, ← b3]
    · show 1 + max (hgT x) (hgT y) = 1 + max (hgT (sbT g x)) (hgT (sbT g y))
      rw [← a4, ← b4]
theorem wrL_eq {f g : Nat → aT} : ∀ (R1 R2 : List aT) (s1 s2 : List Nat), R1 = R2.map (sbT f) → R2 = R1.map (sbT g) → CrV f g s1 s2 → (wrL R1 s1).1 = (wrL R2 s2).1 ∧ R1.map szT = R2.map szT ∧ R1.map hgT = R2.map hgT := by
  intro R1
  induction R1 with
  | nil =>
    intro R2 s1 s2 h1 h2 hc
    rw [List.map_nil] at h2
    subst h2
    exact ⟨rfl, rfl, rfl⟩
  | cons T R1 ih =>
    intro R2 s1 s2 h1 h2 hc
    rw [List.map_cons] at h2
    subst h2
    rw [List.map_cons] at h1
    injection h1 with hT hR
    obtain ⟨a1, a2, a3, a4⟩ := wrT_eq T (sbT g T) s1 s2 hT rfl hc
    obtain ⟨b1, b2, b3⟩ := ih (R1.map (sbT g)) _ _ hR rfl a2
    refine ⟨?_, ?_, ?_⟩
    · show (wrT T s1).1 :: _ = (wrT (sbT g T) s2).1 :: _
      rw [a1, b1]
    · rw [List.map_cons, List.map_cons, a3, b2]
    · rw [List.map_cons, List.map_cons, a4, b3]
/-- the same instances -/
theorem rows_eq {R1 R2 : List aT} (h : ∀ X : List aT, (∃ f, X = R1.map (sbT f)) ↔ (∃ f, X = R2.map (sbT f))) : (wrL R1 []).1 = (wrL R2 []).1 ∧ R1.map szT = R2.map szT ∧ R1.map hgT = R2.map hgT := by
  have i : ∀ R : List aT, R = R.map (sbT vrT) := fun R => by
    induction R with
    | nil => rfl
    | cons T R ih => rw [List.map_cons, sbT_id, ← ih]
  obtain ⟨f, hf⟩ := (h R1).mp ⟨vrT, i R1⟩
  obtain ⟨g, hg⟩ := (h R2).mpr ⟨vrT, i R2⟩
  exact wrL_eq R1 R2 [] [] hf hg ⟨rfl, fun i hi => absurd hi (Nat.not_lt_zero _)⟩
