/-! A RUN THAT NEVER SEES THE SCRIPT runs alike whatever the script is -/
section
variable {L : Nat} {xs : Nat → Int32}
def a_ov (L : Nat) (xs : Nat → Int32) (h : aH) : aH := (h.1, h.2.1, (fun k => if k = aSc then (1000, L) else h.2.2.1 k), (fun k => if k = aSc then xs else h.2.2.2.1 k), h.2.2.2.2.1, h.2.2.2.2.2)
def a_oq (L : Nat) (xs : Nat → Int32) (q : aS ⊕ aR) : aS ⊕ aR := match q with
  | .inl s => .inl (s.1, s.2.1, s.2.2.1, a_ov L xs s.2.2.2)
  | .inr r => .inr (r.1, a_ov L xs r.2)
theorem ov_k {h : aH} {k : Nat} (hk : k ≠ aSc) : (a_ov L xs h).2.2.1 k = h.2.2.1 k := if_neg hk
theorem ov_i {h : aH} {k : Nat} (hk : k ≠ aSc) : (a_ov L xs h).2.2.2.1 k = h.2.2.2.1 k := if_neg hk
theorem ov_setI {h : aH} {k j : Nat} {x : Int32} (hk : k ≠ aSc) : a_setI (a_ov L xs h) k j x = a_ov L xs (a_setI h k j x) := by
  unfold a_setI a_ov
  have e : a_up (fun k => if k = aSc then xs else h.2.2.2.1 k) k j x = (fun q => if q = aSc then xs else a_up h.2.2.2.1 k j x q) := by
    funext q
    unfold a_up
    by_cases hq : q = k
    · subst hq
      simp only [if_true, hk, if_false]
    · simp only [hq, if_false]
  try dsimp only
  rw [e]
theorem ov_mk {h : aH} {c len : Nat} (hk : h.1 ≠ aSc) : a_mk c len (a_ov L xs h) = a_ov L xs (a_mk c len h) := by
  unfold a_mk a_ov
  have e1 : a_kup (fun k => if k = aSc then (1000, L) else h.2.2.1 k) h.1 (c, len) = (fun q => if q = aSc then (1000, L) else a_kup h.2.2.1 h.1 (c, len) q) := by
    funext q
    unfold a_kup
    by_cases hq : q = h.1
    · rw [if_pos hq, if_neg (fun e => hk (hq.symm.trans e)), if_pos hq]
    · rw [if_neg hq, if_neg hq]
  have e2 : a_new (fun k => if k = aSc then xs else h.2.2.2.1 k) h.1 0 = (fun q => if q = aSc then xs else a_new h.2.2.2.1 h.1 0 q) := by
    funext q
    unfold a_new
    by_cases hq : q = h.1
    · rw [if_pos hq, if_neg (fun e => hk (hq.symm.trans e)), if_pos hq]
    · rw [if_neg hq, if_neg hq]
  try dsimp only
  rw [e1, e2]
theorem ov_go {pc : Nat} {ls : List Value} {h : aH} {o : Option (List Value)} {q : aS ⊕ aR} (hs : a_go pc ls h o = some q) : a_go pc ls (a_ov L xs h) o = some (a_oq L xs q) := by
  unfold a_go at hs ⊢
  split at hs
  · cases hs; rfl
  · cases hs
theorem ov_go2 {pc : Nat} {ls : List Value} {h : aH} {o o' : Option (List Value)} {q : aS ⊕ aR} (ho : ∀ st, o = some st → o' = some st) (hs : a_go pc ls h o = some q) : a_go pc ls (a_ov L xs h) o' = some (a_oq L xs q) := by
  unfold a_go at hs ⊢
  split at hs
  · rename_i st
    cases hs
    rw [ho st rfl]
    rfl
  · cases hs
theorem ov_getf {c j t : Nat} {st st' : List Value} {h : aH} (hl : h.1 < aSc) (hs : a_getf c j t st h = some st') : a_getf c j t st (a_ov L xs h) = some st' := by
  unfold a_getf at hs ⊢
  split at hs
  · split at hs
    · rename_i k _ hk
      have hn : k ≠ aSc := Nat.ne_of_lt (Nat.lt_trans hk.1 hl)
      try dsimp only
      rw [if_pos (by rw [ov_k hn]; exact hk), ← hs]
      unfold a_slot
      rw [ov_i hn]
      rfl
    · cases hs
  · cases hs
theorem ov_ald {c : Nat} {st st' : List Value} {h : aH} (hl : h.1 < aSc) (h0 : (h.2.2.1 aSc).1 = 0) (hs : a_ald c st h = some st') : a_ald c st (a_ov L xs h) = some st' := by
  unfold a_ald at hs ⊢
  split at hs
  · rename_i i k st0
    try dsimp only
    by_cases hk : k = aSc
    · subst hk
      split at hs
      · rename_i hh
        exfalso
        obtain ⟨h1 | h1, h2, -⟩ := hh
        · exact absurd (Nat.lt_trans h1 hl) (Nat.lt_irrefl _)
        · rw [h0, h1.2] at h2
          exact absurd h2 (by decide)
      · split at hs
        · rename_i hh
          exact absurd hh.1 (by decide)
        · cases hs
    · rw [ov_k hk, ov_i hk]
      exact hs
  · cases hs
theorem ov_aldL {st st' : List Value} {h : aH} (hl : h.1 < aSc) (hs : a_aldL st h = some st') : a_aldL st (a_ov L xs h) = some st' := by
  unfold a_aldL at hs ⊢
  split at hs
  · split at hs
    · rename_i k _ hk
      have hn : k ≠ aSc := Nat.ne_of_lt (Nat.lt_trans hk.1 hl)
      try dsimp only
      rw [if_pos (by rw [ov_k hn]; exact hk), ← hs]
      rfl
    · cases hs
  · cases hs
theorem ov_len {st st' : List Value} {h : aH} (hl : h.1 < aSc) (h0 : (h.2.2.1 aSc).1 = 0) (hs : a_len st h = some st') : a_len st (a_ov L xs h) = some st' := by
  unfold a_len at hs ⊢
  split at hs
  · rename_i k st0
    try dsimp only
    by_cases hk : k = aSc
    · subst hk
      split at hs
      · rename_i hh
        exfalso
        rcases hh with h1 | h1
        · exact absurd (Nat.lt_trans h1.1 hl) (Nat.lt_irrefl _)
        · rw [h0] at h1
          exact absurd h1.2 (by decide)
      · cases hs
    · rw [ov_k hk]
      exact hs
  · cases hs
theorem ov_putf {pc c j t : Nat} {ls st : List Value} {h : aH} {q : aS ⊕ aR} (hl : h.1 < aSc) (hs : a_putf pc c j t ls st h = some q) : a_putf pc c j t ls st (a_ov L xs h) = some (a_oq L xs q) := by
  unfold a_putf at hs ⊢
  split at hs
  · split at hs
    · rename_i k _ hk
      have hn : k ≠ aSc := Nat.ne_of_lt (Nat.lt_trans hk.1.1 hl)
      try dsimp only
      rw [if_pos (by rw [ov_k hn]; exact hk), ov_setI hn]
      cases hs
      rfl
    · cases hs
  · split at hs
    · rename_i k _ hk
      have hn : k ≠ aSc := Nat.ne_of_lt (Nat.lt_trans hk.1.1 hl)
      try dsimp only
      rw [if_pos (by rw [ov_k hn]; exact hk)]
      cases hs
      rfl
    · cases hs
  · cases hs
theorem ov_ast {c : Nat} {f : Int32 → Int32} {pc : Nat} {ls st : List Value} {h : aH} {q : aS ⊕ aR} (hl : h.1 < aSc) (hs : a_ast c f pc ls st h = some q) : a_ast c f pc ls st (a_ov L xs h) = some (a_oq L xs q) := by
  unfold a_ast at hs ⊢
  split at hs
  · split at hs
    · rename_i k _ hk
      have hn : k ≠ aSc := Nat.ne_of_lt (Nat.lt_trans hk.1 hl)
      try dsimp only
      rw [if_pos (by rw [ov_k hn]; exact hk), ov_setI hn]
      cases hs
      rfl
    · cases hs
  · cases hs
theorem ov_astL {pc : Nat} {ls st : List Value} {h : aH} {q : aS ⊕ aR} (hl : h.1 < aSc) (hs : a_astL pc ls st h = some q) : a_astL pc ls st (a_ov L xs h) = some (a_oq L xs q) := by
  unfold a_astL at hs ⊢
  split at hs
  · split at hs
    · rename_i k _ hk
      have hn : k ≠ aSc := Nat.ne_of_lt (Nat.lt_trans hk.1 hl)
      try dsimp only
      rw [if_pos (by rw [ov_k hn]; exact hk)]
      cases hs
      rfl
    · cases hs
  · cases hs
theorem ov_newa {t : ArrayType} {pc : Nat} {ls st : List Value} {h : aH} {q : aS ⊕ aR} (hl : h.1 < aSc) (hs : a_newa t pc ls st h = some q) : a_newa t pc ls st (a_ov L xs h) = some (a_oq L xs q) := by
  unfold a_newa at hs ⊢
  split at hs
  · split at hs
    · rename_i hk
      try dsimp only
      rw [if_pos (by exact hk), ov_mk (Nat.ne_of_lt hl)]
      cases hs
      rfl
    · cases hs
  · cases hs
theorem ov_sti {pc : Nat} {ls st : List Value} {i : Nat} {h : aH} {q : aS ⊕ aR} (hs : a_sti pc ls st i h = some q) : a_sti pc ls st i (a_ov L xs h) = some (a_oq L xs q) := by
  unfold a_sti at hs ⊢
  repeat' (split at hs)
  all_goals first | (cases hs; done) | (rename_i hk; cases hs; (try dsimp only); rw [if_pos hk]; rfl)
theorem ov_sta {pc : Nat} {ls st : List Value} {i : Nat} {h : aH} {q : aS ⊕ aR} (hs : a_sta pc ls st i h = some q) : a_sta pc ls st i (a_ov L xs h) = some (a_oq L xs q) := by
  unfold a_sta at hs ⊢
  repeat' (split at hs)
  all_goals first | (cases hs; done) | (rename_i hk; cases hs; (try dsimp only); rw [if_pos hk]; rfl)
theorem ov_inc {pc : Nat} {ls st : List Value} {i : Nat} {n : Int} {h : aH} {q : aS ⊕ aR} (hs : a_inc pc ls st i n h = some q) : a_inc pc ls st i n (a_ov L xs h) = some (a_oq L xs q) := by
  unfold a_inc at hs ⊢
  split at hs
  · cases hs; rfl
  · cases hs
theorem ov_jdk {y : Nat} {as : List Value} {h : aH} {r : aR} (hs : a_jdk y as h = some r) (hl : h.1 < aSc) : a_jdk y as (a_ov L xs h) = some (r.1, a_ov L xs r.2) := by
  unfold a_jdk at hs ⊢
  split at hs
  · skip
    repeat' (split at hs)
    all_goals first | (cases hs; done) | (cases hs; simp [*])
  · skip
    repeat' (split at hs)
    all_goals first | (cases hs; done) | (cases hs; simp [*])
  · skip
    repeat' (split at hs)
    all_goals first | (cases hs; done) | (cases hs; simp [*])
  · skip
    split at hs
    · rename_i sp k2 dp n hk
      have hn : k2 ≠ aSc := Nat.ne_of_lt (Nat.lt_trans hk.2.2.1 hl)
      rw [if_pos (by rw [ov_k hn]; exact hk)]
      cases hs
      have e : (fun a => if a = k2 then va_cpy (fun j => aTab.getD j 0) ((a_ov L xs h).2.2.2.1 k2) sp.toNatClampNeg dp.toNatClampNeg n.toNatClampNeg else (a_ov L xs h).2.2.2.1 a) = (fun a => if a = aSc then xs else if a = k2 then va_cpy (fun j => aTab.getD j 0) (h.2.2.2.1 k2) sp.toNatClampNeg dp.toNatClampNeg n.toNatClampNeg else h.2.2.2.1 a) := by
        funext a
        by_cases ha : a = k2
        · subst ha
          rw [if_pos rfl, if_neg hn, if_pos rfl, ov_i hn]
        · rw [if_neg ha, if_neg ha]
          rfl
      rw [e]
      rfl
    · cases hs
  · cases hs
theorem ov_inv {call call' : Nat → List Value → aH → Option aR} {ct : Bool} {a b pc : Nat} {ls st : List Value} {h : aH} {q : aS ⊕ aR} (hc : ∀ z as r, call z as h = some r → call' z as (a_ov L xs h) = some (r.1, a_ov L xs r.2)) (hs : a_inv call ct a b pc ls st h = some q) : a_inv call' ct a b pc ls st (a_ov L xs h) = some (a_oq L xs q) := by
  unfold a_inv at hs ⊢
  split at hs
  · rename_i hb
    rw [if_pos hb]
    split at hs
    · rename_i v h' he
      rw [hc _ _ _ he]
      cases hs
      rfl
    · rename_i v h' he
      rw [hc _ _ _ he]
      split at hs
      · rename_i hct
        cases hs
        try dsimp only
        rw [if_pos hct]
        rfl
      · cases hs
    · cases hs
  · cases hs
set_option maxHeartbeats 4000000 in
theorem ov_step {call call' : Nat → List Value → aH → Option aR} {ct : Bool} {pc : Nat} {i : Instr} {a b : Nat} {ls st : List Value} {h : aH} {q : aS ⊕ aR} (hc : ∀ z as r, call z as h = some r → call' z as (a_ov L xs h) = some (r.1, a_ov L xs r.2)) (hs : a_step call ct pc i a b ls st h = some q) (hl : h.1 < aSc) (h0 : (h.2.2.1 aSc).1 = 0) : a_step call' ct pc i a b ls st (a_ov L xs h) = some (a_oq L xs q) := by
  cases i
  all_goals first
    | (cases hs; done)
    | (cases hs; rfl)
    | exact ov_go hs
    | exact ov_go2 (fun _ e => ov_getf hl e) hs
    | exact ov_go2 (fun _ e => ov_ald hl h0 e) hs
    | exact ov_go2 (fun _ e => ov_aldL hl e) hs
    | exact ov_go2 (fun _ e => ov_len hl h0 e) hs
    | exact ov_sti hs
    | exact ov_sta hs
    | exact ov_inc hs
    | exact ov_putf hl hs
    | exact ov_ast hl hs
    | exact ov_astL hl hs
    | exact ov_newa hl hs
    | exact ov_inv hc hs
    | skip
  case invokespecial j =>
    unfold a_step at hs ⊢
    dsimp only at hs ⊢
    by_cases ha : a = 1000
    · rw [if_pos ha] at hs ⊢
      repeat' (split at hs)
      all_goals first
        | (cases hs; done)
        | (rename_i hk; cases hs; rw [if_pos hk]; rfl)
    · rw [if_neg ha] at hs ⊢
      exact ov_inv hc hs
  case new j =>
    unfold a_step at hs ⊢
    dsimp only at hs ⊢
    have hm : ∀ c n, a_mk c n (a_ov L xs h) = a_ov L xs (a_mk c n h) := fun c n => ov_mk (Nat.ne_of_lt hl)
    by_cases hb : b = 1
    · rw [if_pos hb] at hs ⊢
      split at hs
      · rename_i hk
        rw [if_pos (show (a_ov L xs h).1 + 1 < aSc ∧ _ from hk), hm]
        cases hs
        rfl
      · cases hs
    · rw [if_neg hb] at hs ⊢
      split at hs
      · rename_i hk
        rw [if_pos (show (a_ov L xs h).1 + 1 < aSc from hk), hm]
        cases hs
        rfl
      · cases hs
  all_goals (unfold a_step at hs ⊢)
  all_goals (dsimp only at hs ⊢)
  all_goals (repeat' (split at hs))
  all_goals first
    | (cases hs; done)
    | (cases hs; rfl)
    | (cases hs; simp only [*, if_true, if_false]; rfl)
    | skip
theorem ov_run : ∀ (n d y pc : Nat) (ls st : List Value) (h : aH) (r : aR), a_run n d y pc ls st h = some r → h.1 < aSc → (h.2.2.1 aSc).1 = 0 → a_run n d y pc ls st (a_ov L xs h) = some (r.1, a_ov L xs r.2) := by
  intro n
  induction n with
  | zero => intro d y pc ls st h r hs; cases hs
  | succ n ih =>
    intro d y pc ls st h r hs hl h0
    have hc : ∀ z as r, a_call n d z as h = some r → a_call n d z as (a_ov L xs h) = some (r.1, a_ov L xs r.2) := by
      intro z as r hz
      unfold a_call at hz ⊢
      split at hz
      · cases hz
      · split at hz
        · rename_i mz _
          split at hz
          · rename_i hok
            have hok2 : a_ok mz as (a_ov L xs h) = true := by
              unfold a_ok at hok ⊢
              rw [Bool.and_eq_true] at hok ⊢
              refine ⟨hok.1, ?_⟩
              have h2 := hok.2
              rw [Bool.or_eq_true] at h2 ⊢
              rcases h2 with h2 | h2
              · exact Or.inl h2
              · refine Or.inr ?_
                split at h2
                · rename_i k _
                  rw [decide_eq_true_eq] at h2 ⊢
                  have hn : k ≠ aSc := Nat.ne_of_lt (Nat.lt_trans h2.1 hl)
                  rw [ov_k hn]
                  exact h2
                · cases h2
            rw [if_pos hok2]
            exact ih _ _ _ _ _ _ _ hz hl h0
          · cases hz
        · exact ov_jdk hz hl
    rw [a_run_succ] at hs ⊢
    split at hs
    · cases hs
    · rename_i ai hai
      have hg : ∀ z as g r, g.1 < aSc → a_call n d z as g = some r → a_ge g r.2 := by
        intro z as g r hg hz
        unfold a_call at hz
        split at hz
        · cases hz
        · split at hz
          · split at hz
            · exact a_ge_run _ _ _ _ _ _ _ _ hz hg
            · cases hz
          · exact a_ge_jdk hz hg
      split at hs
      · rename_i hst
        have h1 := a_ge_step hg hst hl
        rw [ov_step hc hst hl h0]
        exact ih _ _ _ _ _ _ _ hs h1.2.1 ((congrArg Prod.fst h1.2.2.2.2.1).trans h0)
      · rename_i r0 hst
        rw [ov_step hc hst hl h0]
        split at hs
        · rename_i hrk
          cases hs
          have e : a_rok y (r.1, a_ov L xs r.2) = a_rok y r := rfl
          show (if a_rok y (r.1, a_ov L xs r.2) = true then some (r.1, a_ov L xs r.2) else none) = _
          rw [e, if_pos hrk]
        · cases hs
      · cases hs
end
