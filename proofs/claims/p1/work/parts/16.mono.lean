/-! WHAT A RUN KEEPS: cells only grow, the script stays -/
def a_ge (h h' : aH) : Prop := h.1 ≤ h'.1 ∧ h'.1 < aSc ∧ h.2.1.1 ≤ h'.2.1.1 ∧ h.2.1.2 ≤ h'.2.1.2 ∧ h'.2.2.1 aSc = h.2.2.1 aSc ∧ h'.2.2.2.1 aSc = h.2.2.2.1 aSc
theorem a_ge.rf {h : aH} (hl : h.1 < aSc) : a_ge h h := ⟨Nat.le_refl _, hl, Nat.le_refl _, Nat.le_refl _, rfl, rfl⟩
theorem a_ge.tr {h1 h2 h3 : aH} (a : a_ge h1 h2) (b : a_ge h2 h3) : a_ge h1 h3 := ⟨Nat.le_trans a.1 b.1, b.2.1, Nat.le_trans a.2.2.1 b.2.2.1, Nat.le_trans a.2.2.2.1 b.2.2.2.1, b.2.2.2.2.1.trans a.2.2.2.2.1, b.2.2.2.2.2.trans a.2.2.2.2.2⟩
theorem a_ge_mk {h : aH} {c len : Nat} (hl : h.1 + 1 < aSc) : a_ge h (a_mk c len h) := by
  have hne : aSc ≠ h.1 := by omega
  exact ⟨Nat.le_succ _, hl, Nat.le_succ _, Nat.le_add_right _ _, if_neg hne, if_neg hne⟩
theorem a_ge_setI {h : aH} {k j : Nat} {x : Int32} (hk : k < h.1) (hl : h.1 < aSc) : a_ge h (a_setI h k j x) := by
  have hne : aSc ≠ k := by omega
  exact ⟨Nat.le_refl _, hl, Nat.le_refl _, Nat.le_refl _, rfl, a_up_ne _ _ _ hne⟩
theorem a_ge_setL {h : aH} {k j : Nat} {x : Int64} (hl : h.1 < aSc) : a_ge h (a_setL h k j x) := ⟨Nat.le_refl _, hl, Nat.le_refl _, Nat.le_refl _, rfl, rfl⟩
theorem a_ge_setR {h : aH} {k j : Nat} {x : Option Nat} (hl : h.1 < aSc) : a_ge h (a_setR h k j x) := ⟨Nat.le_refl _, hl, Nat.le_refl _, Nat.le_refl _, rfl, rfl⟩
theorem a_ge_jdk {y : Nat} {as : List Value} {h : aH} {r : aR} (hs : a_jdk y as h = some r) (hl : h.1 < aSc) : a_ge h r.2 := by
  unfold a_jdk at hs
  split at hs
  · split at hs
    · cases hs; exact a_ge.rf hl
    · split at hs
      · cases hs; exact a_ge.rf hl
      · cases hs
  · split at hs
    · split at hs
      · cases hs; exact a_ge.rf hl
      · cases hs
    · cases hs
  · split at hs
    · split at hs
      · cases hs; exact a_ge.rf hl
      · cases hs
    · cases hs
  · split at hs
    · rename_i hk
      cases hs
      have hne : aSc ≠ _ := fun z => absurd (Nat.lt_trans hk.2.2.1 hl) (by rw [z]; exact Nat.lt_irrefl _)
      exact ⟨Nat.le_refl _, hl, Nat.le_refl _, Nat.le_refl _, rfl, if_neg hne⟩
    · cases hs
  · cases hs
def a_nh (o : aS ⊕ aR) : aH := match o with
  | .inl s => s.2.2.2
  | .inr r => r.2
theorem a_ge_go {pc : Nat} {ls : List Value} {h : aH} {o : Option (List Value)} {q : aS ⊕ aR} (hs : a_go pc ls h o = some q) (hl : h.1 < aSc) : a_ge h (a_nh q) := by
  unfold a_go at hs
  split at hs
  · cases hs; exact a_ge.rf hl
  · cases hs
theorem a_ge_inv {call : Nat → List Value → aH → Option aR} {ct : Bool} {a b pc : Nat} {ls st : List Value} {h : aH} {q : aS ⊕ aR} (hc : ∀ z as g r, g.1 < aSc → call z as g = some r → a_ge g r.2) (hs : a_inv call ct a b pc ls st h = some q) (hl : h.1 < aSc) : a_ge h (a_nh q) := by
  unfold a_inv at hs
  split at hs
  · split at hs
    · rename_i v h' he
      cases hs
      exact hc _ _ _ _ hl he
    · rename_i v h' he
      split at hs
      · cases hs
        exact hc _ _ _ (.inr v, h') hl he
      · cases hs
    · cases hs
  · cases hs
set_option maxHeartbeats 4000000 in
theorem a_ge_step {call : Nat → List Value → aH → Option aR} {ct : Bool} {pc : Nat} {i : Instr} {a b : Nat} {ls st : List Value} {h : aH} {q : aS ⊕ aR} (hc : ∀ z as g r, g.1 < aSc → call z as g = some r → a_ge g r.2) (hs : a_step call ct pc i a b ls st h = some q) (hl : h.1 < aSc) : a_ge h (a_nh q) := by
  unfold a_step at hs
  split at hs
  all_goals first
    | (cases hs; done)
    | (cases hs; exact a_ge.rf hl)
    | exact a_ge_go hs hl
    | exact a_ge_inv hc hs hl
    | skip
  all_goals (try unfold a_sti at hs)
  all_goals (try unfold a_sta at hs)
  all_goals (try unfold a_inc at hs)
  all_goals (try unfold a_putf at hs)
  all_goals (try unfold a_ast at hs)
  all_goals (try unfold a_astL at hs)
  all_goals (try unfold a_newa at hs)
  all_goals (repeat' (split at hs))
  all_goals first
    | (cases hs; done)
    | (cases hs; exact a_ge.rf hl)
    | exact a_ge_inv hc hs hl
    | (rename_i hk; cases hs; exact a_ge_setI hk.1.1 hl)
    | (rename_i hk; cases hs; exact a_ge_setI hk.1 hl)
    | (cases hs; exact a_ge_setR hl)
    | (cases hs; exact a_ge_setL hl)
    | (rename_i hk; cases hs; exact a_ge_mk hk.2.2.1)
    | (rename_i hk; cases hs; exact a_ge_mk hk)
    | (rename_i hk; cases hs; exact a_ge_mk hk.1)
theorem a_run_zero {d y pc : Nat} {ls st : List Value} {h : aH} : a_run 0 d y pc ls st h = none := rfl
/-- the call that a run makes -/
def a_call (n d z : Nat) (as : List Value) (g : aH) : Option aR := match d with
  | 0 => none
  | d' + 1 => match aMeL[z]? with
    | some mz => if a_ok mz as g = true then a_run n d' z 0 (a_loc mz as) [] g else none
    | none => a_jdk z as g
def a_ctch (y : Nat) : Bool := match aMeL[y]? with
  | some my => my.2.2.2.2.2.2.2
  | none => false
theorem a_run_succ (n d y pc : Nat) (ls st : List Value) (h : aH) : a_run (n + 1) d y pc ls st h = (match aCode y pc with
    | none => none
    | some ai => match a_step (a_call n d) (a_ctch y) pc ai.1 ai.2.1 ai.2.2.1 ls st h with
      | some (.inl (pc', ls', st', h')) => a_run n d y pc' ls' st' h'
      | some (.inr r) => if a_rok y r = true then some r else none
      | none => none) := rfl
theorem a_ge_run : ∀ (n d y pc : Nat) (ls st : List Value) (h : aH) (r : aR), a_run n d y pc ls st h = some r → h.1 < aSc → a_ge h r.2 := by
  intro n
  induction n with
  | zero => intro d y pc ls st h r hs; cases hs
  | succ n ih =>
    intro d y pc ls st h r hs hl
    have hc : ∀ z as g r, g.1 < aSc → a_call n d z as g = some r → a_ge g r.2 := by
      intro z as g r hg hz
      unfold a_call at hz
      split at hz
      · cases hz
      · split at hz
        · split at hz
          · exact ih _ _ _ _ _ _ _ hz hg
          · cases hz
        · exact a_ge_jdk hz hg
    rw [a_run_succ] at hs
    split at hs
    · cases hs
    · split at hs
      · rename_i hst
        have h1 := a_ge_step hc hst hl
        exact h1.tr (ih _ _ _ _ _ _ _ hs h1.2.1)
      · rename_i hst
        have h1 := a_ge_step hc hst hl
        split at hs
        · cases hs
          exact h1
        · cases hs
      · cases hs
