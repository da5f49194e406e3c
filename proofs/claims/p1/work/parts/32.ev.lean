/-! RUNS WITHOUT FUEL -/
theorem a_inv_mono {call call' : Nat → List Value → aH → Option aR} (hc : ∀ z as g r, call z as g = some r → call' z as g = some r) {ct : Bool} {a b pc : Nat} {ls st : List Value} {h : aH} {q : aS ⊕ aR} (hs : a_inv call ct a b pc ls st h = some q) : a_inv call' ct a b pc ls st h = some q := by
  unfold a_inv at hs ⊢
  split at hs
  · rename_i hb
    rw [if_pos hb]
    cases hcl : call a (st.take b).reverse h with
    | none => rw [hcl] at hs; cases hs
    | some r => rw [hcl] at hs; rw [hc _ _ _ _ hcl]; exact hs
  · cases hs
theorem a_step_mono {call call' : Nat → List Value → aH → Option aR} (hc : ∀ z as g r, call z as g = some r → call' z as g = some r) {ct : Bool} {pc : Nat} {i : Instr} {a b : Nat} {ls st : List Value} {h : aH} {q : aS ⊕ aR} (hs : a_step call ct pc i a b ls st h = some q) : a_step call' ct pc i a b ls st h = some q := by
  cases i
  all_goals first
    | exact hs
    | exact a_inv_mono hc hs
    | skip
  · unfold a_step at hs ⊢
    dsimp only at hs ⊢
    by_cases ha : a = 1000
    · rw [if_pos ha] at hs ⊢
      exact hs
    · rw [if_neg ha] at hs ⊢
      exact a_inv_mono hc hs
theorem a_call_mono {n n' d : Nat} (hr : ∀ d y pc ls st h r, a_run n d y pc ls st h = some r → a_run n' d y pc ls st h = some r) (z : Nat) (as : List Value) (g : aH) (r : aR) (hs : a_call n d z as g = some r) : a_call n' d z as g = some r := by
  unfold a_call at hs ⊢
  split at hs
  · cases hs
  · split at hs
    · rename_i mz hz
      split at hs
      · rename_i hok
        rw [if_pos hok]
        exact hr _ _ _ _ _ _ _ hs
      · cases hs
    · exact hs
theorem a_run_mono1 : ∀ (n d y pc : Nat) (ls st : List Value) (h : aH) (r : aR), a_run n d y pc ls st h = some r → a_run (n + 1) d y pc ls st h = some r := by
  intro n
  induction n with
  | zero => intro d y pc ls st h r hs; cases hs
  | succ n ih =>
    intro d y pc ls st h r hs
    rw [a_run_succ] at hs ⊢
    cases hai : aCode y pc with
    | none => rw [hai] at hs; cases hs
    | some ai =>
      rw [hai] at hs
      dsimp only at hs ⊢
      cases hst : a_step (a_call n d) (a_ctch y) pc ai.1 ai.2.1 ai.2.2.1 ls st h with
      | none => rw [hst] at hs; cases hs
      | some q =>
        rw [hst] at hs
        rw [a_step_mono (a_call_mono ih) hst]
        cases q with
        | inl s => exact ih _ _ _ _ _ _ _ hs
        | inr r0 => exact hs
theorem a_run_mono {n m d y pc : Nat} {ls st : List Value} {h : aH} {r : aR} (hs : a_run n d y pc ls st h = some r) (hm : n ≤ m) : a_run m d y pc ls st h = some r := by
  obtain ⟨k, rfl⟩ := Nat.exists_eq_add_of_le hm
  induction k with
  | zero => exact hs
  | succ k ih => exact a_run_mono1 _ _ _ _ _ _ _ _ (ih (by omega))
def a_Ev (d y pc : Nat) (ls st : List Value) (h : aH) (r : aR) : Prop := ∃ n, a_run n d y pc ls st h = some r
def a_nc : Nat → List Value → aH → Option aR := fun _ _ _ => none
theorem a_Ev.st {d y pc pc' : Nat} {ls st ls' st' : List Value} {h h' : aH} {r : aR} {ai : aI} (hc : aCode y pc = some ai) (hs : a_step a_nc (a_ctch y) pc ai.1 ai.2.1 ai.2.2.1 ls st h = some (.inl (pc', ls', st', h'))) (k : a_Ev d y pc' ls' st' h' r) : a_Ev d y pc ls st h r := by
  obtain ⟨n, hn⟩ := k
  refine ⟨n + 1, ?_⟩
  rw [a_run_succ, hc]
  dsimp only
  rw [a_step_mono (call := a_nc) (fun _ _ _ _ h => by cases h) hs]
  exact hn
theorem a_Ev.en {d y pc : Nat} {ls st : List Value} {h : aH} {r : aR} {ai : aI} (hc : aCode y pc = some ai) (hs : a_step a_nc (a_ctch y) pc ai.1 ai.2.1 ai.2.2.1 ls st h = some (.inr r)) (hr : a_rok y r = true) : a_Ev d y pc ls st h r := by
  refine ⟨1, ?_⟩
  rw [a_run_succ, hc]
  dsimp only
  rw [a_step_mono (call := a_nc) (fun _ _ _ _ h => by cases h) hs]
  dsimp only
  rw [if_pos hr]
def a_isC (i : Instr) : Bool := match i with
  | .invokevirtual _ => true
  | .invokestatic _ => true
  | .invokespecial _ => true
  | _ => false
theorem a_step_inv {call : Nat → List Value → aH → Option aR} {ct : Bool} {pc : Nat} {i : Instr} {a b : Nat} {ls st : List Value} {h : aH} (hi : a_isC i = true) (ha : a ≠ 1000) : a_step call ct pc i a b ls st h = a_inv call ct a (b / 2) (pc + 3) ls st h := by
  cases i <;> first | (cases hi; done) | rfl | skip
  · unfold a_step
    dsimp only
    rw [if_neg ha]
theorem a_Ev.call {d y pc z b : Nat} {i : Instr} {w : List Nat} {ls as st : List Value} {h h1 : aH} {v : Option Value} {r : aR} {mz : aMe} (hc : aCode y pc = some (i, z, b, w)) (hi : a_isC i = true) (hz : aMeL[z]? = some mz) (hz0 : z ≠ 1000) (hok : a_ok mz as h = true) (hb : as.length = b / 2) (hsum : (st.map fun v => v.category).sum ≤ 8)
    (hk : a_Ev d z 0 (a_loc mz as) [] h (.inl v, h1)) (k : a_Ev (d + 1) y (pc + 3) ls (v.toList ++ st) h1 r) : a_Ev (d + 1) y pc ls (as.reverse ++ st) h r := by
  obtain ⟨n1, hn1⟩ := hk
  obtain ⟨n2, hn2⟩ := k
  refine ⟨(n1 + n2) + 1, ?_⟩
  rw [a_run_succ, hc]
  dsimp only
  rw [a_step_inv hi hz0]
  unfold a_inv
  have hl : as.reverse.length = b / 2 := by rw [List.length_reverse]; exact hb
  have e1 : (as.reverse ++ st).take (b / 2) = as.reverse := by rw [← hl]; exact List.take_left
  have e2 : (as.reverse ++ st).drop (b / 2) = st := by rw [← hl]; exact List.drop_left
  rw [e1, e2, if_pos ⟨by rw [List.length_append]; omega, hsum⟩, List.reverse_reverse]
  have hcall : a_call (n1 + n2) (d + 1) z as h = some (.inl v, h1) := by
    unfold a_call
    dsimp only
    rw [hz]
    dsimp only
    rw [if_pos hok]
    exact a_run_mono hn1 (Nat.le_add_right _ _)
  rw [hcall]
  dsimp only
  exact a_run_mono hn2 (Nat.le_add_left _ _)
/-- a call of a helper's, caught -/
theorem a_Ev.catch {d y pc z b ci : Nat} {i : Instr} {w : List Nat} {ls as st : List Value} {h h1 : aH} {mz : aMe} (hy : a_ctch y = true) (hc : aCode y pc = some (i, z, b, w)) (hi : a_isC i = true) (hz : aMeL[z]? = some mz) (hz0 : z ≠ 1000) (hok : a_ok mz as h = true) (hb : as.length = b / 2) (hsum : (st.map fun v => v.category).sum ≤ 8)
    (hk : a_Ev d z 0 (a_loc mz as) [] h (.inr ci, h1)) (hr : a_rok y (.inl (some (.int 1)), h1) = true) : a_Ev (d + 1) y pc ls (as.reverse ++ st) h (.inl (some (.int 1)), h1) := by
  obtain ⟨n1, hn1⟩ := hk
  refine ⟨n1 + 1, ?_⟩
  rw [a_run_succ, hc]
  dsimp only
  rw [a_step_inv hi hz0]
  unfold a_inv
  have hl : as.reverse.length = b / 2 := by rw [List.length_reverse]; exact hb
  have e1 : (as.reverse ++ st).take (b / 2) = as.reverse := by rw [← hl]; exact List.take_left
  have e2 : (as.reverse ++ st).drop (b / 2) = st := by rw [← hl]; exact List.drop_left
  rw [e1, e2, if_pos ⟨by rw [List.length_append]; omega, hsum⟩, List.reverse_reverse]
  have hcall : a_call n1 (d + 1) z as h = some (.inr ci, h1) := by
    unfold a_call
    dsimp only
    rw [hz]
    dsimp only
    rw [if_pos hok]
    exact hn1
  rw [hcall]
  dsimp only
  rw [if_pos hy]
  dsimp only
  rw [if_pos hr]
/-- many steps without a call -/
def a_mul : Nat → Nat → aS → Option aS
  | 0, _, s => some s
  | k + 1, y, s => match aCode y s.1 with
    | some ai => (match a_step a_nc false s.1 ai.1 ai.2.1 ai.2.2.1 s.2.1 s.2.2.1 s.2.2.2 with
      | some (.inl s') => a_mul k y s'
      | _ => none)
    | none => none
theorem a_step_ct {ct : Bool} {pc : Nat} {i : Instr} {a b : Nat} {ls st : List Value} {h : aH} {q : aS ⊕ aR} (hs : a_step a_nc false pc i a b ls st h = some q) : a_step a_nc ct pc i a b ls st h = some q := by
  cases i
  all_goals first
    | exact hs
    | (exfalso
       have h2 : a_inv a_nc false a (b / 2) (pc + 3) ls st h = some q := hs
       unfold a_inv a_nc at h2
       split at h2 <;> cases h2)
    | skip
theorem a_Ev.mul {d y : Nat} {r : aR} : ∀ (k : Nat) {s s' : aS}, a_mul k y s = some s' → a_Ev d y s'.1 s'.2.1 s'.2.2.1 s'.2.2.2 r → a_Ev d y s.1 s.2.1 s.2.2.1 s.2.2.2 r := by
  intro k
  induction k with
  | zero =>
    intro s s' hs hk
    cases hs
    exact hk
  | succ k ih =>
    intro s s' hs hk
    unfold a_mul at hs
    cases hai : aCode y s.1 with
    | none => rw [hai] at hs; cases hs
    | some ai =>
      rw [hai] at hs
      dsimp only at hs
      cases hst : a_step a_nc false s.1 ai.1 ai.2.1 ai.2.2.1 s.2.1 s.2.2.1 s.2.2.2 with
      | none => rw [hst] at hs; cases hs
      | some q =>
        rw [hst] at hs
        cases q with
        | inl s1 => exact a_Ev.st hai (a_step_ct hst) (ih hs hk)
        | inr r0 => cases hs
