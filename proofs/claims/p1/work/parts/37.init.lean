/-! printed by wip/am/mk37.py: the two constructors, run by the kernel -/
/-- the same run, with its values brought to numbers at each step -/
def a_fc {α : Type} (n : Nat) (f : Nat → α) : α := Nat.rec (f 0) (fun m _ => f (m + 1)) n
theorem a_fc_eq {α : Type} (n : Nat) (f : Nat → α) : a_fc n f = f n := by cases n <;> rfl
def a_fv {α : Type} (v : Value) (f : Value → α) : α := match v with
  | .int x => a_fc x.toUInt32.toNat (fun n => f (.int (Int32.ofNat n)))
  | .ref k => a_fc k (fun n => f (.ref n))
  | v => f v
theorem a_fv_eq {α : Type} (v : Value) (f : Value → α) : a_fv v f = f v := by
  unfold a_fv
  split
  · rename_i x
    rw [a_fc_eq]
    have e : Int32.ofNat x.toUInt32.toNat = x := by
      apply Int32.toBitVec_inj.mp
      simp
    rw [e]
  · rw [a_fc_eq]
  · rfl
noncomputable def a_fl {α : Type} (l : List Value) : (List Value → α) → α := List.rec (fun f => f []) (fun v _ ih f => a_fv v (fun v' => ih (fun l' => f (v' :: l')))) l
theorem a_fl_eq {α : Type} (l : List Value) : ∀ f : List Value → α, a_fl l f = f l := by
  induction l with
  | nil => intro f; rfl
  | cons v l ih =>
    intro f
    show a_fv v (fun v' => a_fl l (fun l' => f (v' :: l'))) = _
    rw [a_fv_eq, ih]
def a_fh {α : Type} (h : aH) (f : aH → α) : α := match h with
  | (n, (c1, c2), K, I, L, R) => a_fc n (fun n => a_fc c1 (fun c1 => a_fc c2 (fun c2 => f (n, (c1, c2), K, I, L, R))))
theorem a_fh_eq {α : Type} (h : aH) (f : aH → α) : a_fh h f = f h := by
  unfold a_fh
  split
  rw [a_fc_eq, a_fc_eq, a_fc_eq]
noncomputable def a_runF (n : Nat) : Nat → Nat → Nat → List Value → List Value → aH → Option aR := Nat.rec (fun _ _ _ _ _ _ => none)
  (fun _ ih d y pc ls st h => match aCode y pc with
    | none => none
    | some ai => match a_step (fun z as g => match d with
        | 0 => none
        | d' + 1 => match aMeL[z]? with
          | some mz => if a_ok mz as g = true then a_fl (a_loc mz as) (fun l => ih d' z 0 l [] g) else none
          | none => a_jdk z as g) (match aMeL[y]? with
        | some my => my.2.2.2.2.2.2.2
        | none => false) pc ai.1 ai.2.1 ai.2.2.1 ls st h with
      | some (.inl (pc', ls', st', h')) => a_fc pc' (fun p => a_fl ls' (fun l => a_fl st' (fun t => a_fh h' (fun g => ih d y p l t g))))
      | some (.inr r) => if a_rok y r = true then some r else none
      | none => none) n
theorem a_runF_eq : ∀ n, a_runF n = a_run n := by
  intro n
  induction n with
  | zero => rfl
  | succ n ih =>
    funext d y pc ls st h
    show (match aCode y pc with
    | none => none
    | some ai => match a_step (fun z as g => match d with
        | 0 => none
        | d' + 1 => match aMeL[z]? with
          | some mz => if a_ok mz as g = true then a_fl (a_loc mz as) (fun l => a_runF n d' z 0 l [] g) else none
          | none => a_jdk z as g) (match aMeL[y]? with
        | some my => my.2.2.2.2.2.2.2
        | none => false) pc ai.1 ai.2.1 ai.2.2.1 ls st h with
      | some (.inl (pc', ls', st', h')) => a_fc pc' (fun p => a_fl ls' (fun l => a_fl st' (fun t => a_fh h' (fun g => a_runF n d y p l t g))))
      | some (.inr r) => if a_rok y r = true then some r else none
      | none => none) = _
    simp only [a_fc_eq, a_fl_eq, a_fh_eq, ih]
    rfl
def h00 : aH := (0, (0, 0), (fun _ => (0, 0)), (fun _ _ => 0), (fun _ _ => 0), (fun _ _ => none))
def aIn0 : List (Nat × Nat × Int) := [(1, 2, 0), (1, 10, 0), (1, 11, -1), (51, 4, 0), (56, 2, 0), (56, 18, 0), (56, 22, 0), (56, 23, -1)]
def aInL : List (Nat × Nat × Int) := aIn0
def aLnL : List (Nat × Nat × Int) := [(58, 0, 0)]
def aRfE : List (Nat × Nat × Nat) := [(0, 0, 1), (0, 1, 9), (0, 2, 17), (0, 3, 25), (0, 4, 36), (0, 5, 38), (0, 6, 51), (1, 0, 2), (1, 1, 3), (3, 0, 5), (3, 1, 6), (3, 2, 7), (3, 3, 4), (9, 0, 10), (9, 1, 16), (10, 0, 12), (10, 1, 13), (10, 2, 14), (10, 3, 11), (17, 0, 18), (17, 1, 19), (17, 2, 20), (17, 3, 21), (17, 4, 22), (17, 5, 23), (17, 6, 24), (25, 0, 26), (25, 1, 32), (25, 2, 33), (25, 3, 34), (25, 4, 35), (25, 5, 9), (25, 6, 17), (26, 0, 28), (26, 1, 29), (26, 2, 30), (26, 3, 27), (36, 0, 1), (36, 1, 9), (36, 2, 17), (36, 3, 37), (38, 0, 1), (38, 1, 25), (38, 2, 17), (38, 3, 36), (38, 4, 39), (38, 5, 45), (38, 6, 43), (38, 7, 44), (39, 0, 40), (39, 1, 41), (39, 2, 42), (45, 0, 46), (45, 1, 47), (45, 2, 48), (45, 3, 49), (45, 4, 50), (45, 5, 17), (51, 0, 52), (51, 1, 53), (51, 2, 54), (51, 3, 55), (56, 1, 57), (56, 6, 58), (56, 7, 59), (56, 8, 60), (56, 9, 61), (56, 10, 62), (56, 11, 63), (56, 12, 64), (56, 13, 65), (56, 14, 66), (56, 15, 67), (56, 19, 68), (56, 20, 69), (56, 21, 70), (56, 27, 71), (56, 28, 72), (56, 29, 73), (56, 30, 74), (56, 34, 75), (56, 35, 76), (56, 36, 77), (56, 37, 78), (56, 38, 79), (56, 39, 80), (56, 40, 81), (56, 42, 82), (56, 43, 83), (56, 44, 84), (56, 45, 85), (56, 46, 86), (56, 47, 87), (56, 49, 88), (56, 50, 89), (56, 52, 90), (56, 53, 91), (56, 54, 92), (56, 55, 93), (56, 56, 94), (56, 57, 95), (56, 60, 96), (56, 61, 97), (56, 63, 98), (56, 64, 99), (56, 65, 100), (56, 66, 101), (56, 67, 102), (56, 68, 103), (56, 70, 104)]
def a_ick0 (h : aH) : Bool := h.1 == 105 && h.2.1.1 == 105 && decide (h.2.1.2 ≤ 1300000) && (List.range 105).all (fun k => h.2.2.1 k == aKd k) && aRfE.all (fun q => h.2.2.2.2.2 q.1 q.2.1 == some q.2.2) && aLnL.all (fun q => (h.2.2.2.2.1 q.1 q.2.1).toInt == q.2.2)
def a_ickI (l : List (Nat × Nat × Int)) (h : aH) : Bool := l.all (fun q => (h.2.2.2.1 q.1 q.2.1).toInt == q.2.2)
noncomputable def a_chk (c : aH → Bool) : Bool := match a_runF 40000 900 1 0 [.ref 0] [] (a_mk 0 7 h00) with
  | some (.inl none, h1) => h1.1 == 56 && (match a_runF 40000 900 136 0 (.ref 56 :: List.replicate 6 (.retAddr 0)) [] (a_mk 11 71 h1) with
    | some (.inl none, h2) => c h2
    | _ => false)
  | _ => false
set_option maxRecDepth 100000 in
theorem a_chk_0 : a_chk a_ick0 = true := by decide +kernel
set_option maxRecDepth 100000 in
theorem a_chk_I0 : a_chk (a_ickI aIn0) = true := by decide +kernel
theorem a_chk_run {c : aH → Bool} (h : a_chk c = true) : ∃ h1 h2 : aH, a_run 40000 900 1 0 [.ref 0] [] (a_mk 0 7 h00) = some (.inl none, h1) ∧ h1.1 = 56 ∧ a_run 40000 900 136 0 (.ref 56 :: List.replicate 6 (.retAddr 0)) [] (a_mk 11 71 h1) = some (.inl none, h2) ∧ c h2 = true := by
  unfold a_chk at h
  rw [a_runF_eq] at h
  split at h
  · rename_i h1 e1
    rw [Bool.and_eq_true] at h
    obtain ⟨h2, h3⟩ := h
    split at h3
    · rename_i g2 e2
      exact ⟨h1, g2, e1, by simpa using h2, e2, h3⟩
    · cases h3
  · cases h
theorem a_chk_same {c : aH → Bool} {h1 h2 : aH} (e1 : a_run 40000 900 1 0 [.ref 0] [] (a_mk 0 7 h00) = some (.inl none, h1)) (e2 : a_run 40000 900 136 0 (.ref 56 :: List.replicate 6 (.retAddr 0)) [] (a_mk 11 71 h1) = some (.inl none, h2)) (h : a_chk c = true) : c h2 = true := by
  obtain ⟨g1, g2, f1, -, f2, hc⟩ := a_chk_run h
  rw [e1] at f1
  cases f1
  rw [e2] at f2
  cases f2
  exact hc
theorem a_init : ∃ h1 h2 : aH, a_run 40000 900 1 0 [.ref 0] [] (a_mk 0 7 h00) = some (.inl none, h1) ∧ h1.1 = 56 ∧ a_run 40000 900 136 0 (.ref 56 :: List.replicate 6 (.retAddr 0)) [] (a_mk 11 71 h1) = some (.inl none, h2) ∧ a_ick0 h2 = true ∧ a_ickI aInL h2 = true := by
  obtain ⟨h1, h2, e1, e3, e2, hc⟩ := a_chk_run a_chk_0
  refine ⟨h1, h2, e1, e3, e2, hc, ?_⟩
  unfold a_ickI aInL
  try simp only [List.all_append, Bool.and_eq_true]
  exact a_chk_same e1 e2 a_chk_I0
