/-! ARRAYS, NEW CELLS -/
theorem a_in_ok {i : Int32} {n : Nat} (h : a_in i n = true) : vp_in i n := by simpa [a_in, vp_in] using h
theorem a_ald_inv {c : Nat} {st st' : List Value} {h : aH} (hs : a_ald c st h = some st') : ∃ i k r, st = .int i :: .ref k :: r ∧ (((k < h.1 ∨ (k = aSc ∧ c = 1000)) ∧ (h.2.2.1 k).1 = c ∧ a_in i (h.2.2.1 k).2 = true ∧ st' = .int (h.2.2.2.1 k i.toNatClampNeg) :: r) ∨ (k = aC0 ∧ c = 1000 ∧ a_in i aTab.length = true ∧ st' = .int (aTab.getD i.toNatClampNeg 0) :: r)) := by
  unfold a_ald at hs
  split at hs
  · split at hs
    · rename_i hk; cases hs; exact ⟨_, _, _, rfl, Or.inl ⟨hk.1, hk.2.1, hk.2.2, rfl⟩⟩
    · split at hs
      · rename_i hk; cases hs; exact ⟨_, _, _, rfl, Or.inr ⟨hk.1, hk.2.1, hk.2.2, rfl⟩⟩
      · cases hs
  · cases hs
theorem a_aldL_inv {st st' : List Value} {h : aH} (hs : a_aldL st h = some st') : ∃ i k r, st = .int i :: .ref k :: r ∧ k < h.1 ∧ (h.2.2.1 k).1 = 1004 ∧ a_in i (h.2.2.1 k).2 = true ∧ st' = .long (h.2.2.2.2.1 k i.toNatClampNeg) :: r := by
  unfold a_aldL at hs
  split at hs
  · split at hs
    · rename_i hk; cases hs; exact ⟨_, _, _, rfl, hk.1, hk.2.1, hk.2.2, rfl⟩
    · cases hs
  · cases hs
theorem a_ast_inv {c pc pc' : Nat} {f : Int32 → Int32} {ls st ls' st' : List Value} {h h' : aH} (hs : a_ast c f pc ls st h = some (.inl (pc', ls', st', h'))) : ∃ x i k, st = .int x :: .int i :: .ref k :: st' ∧ k < h.1 ∧ (h.2.2.1 k).1 = c ∧ a_in i (h.2.2.1 k).2 = true ∧ pc' = pc ∧ ls' = ls ∧ h' = a_setI h k i.toNatClampNeg (f x) := by
  unfold a_ast at hs
  split at hs
  · split at hs
    · rename_i hk; cases hs; exact ⟨_, _, _, rfl, hk.1, hk.2.1, hk.2.2, rfl, rfl, rfl⟩
    · cases hs
  · cases hs
theorem a_astL_inv {pc pc' : Nat} {ls st ls' st' : List Value} {h h' : aH} (hs : a_astL pc ls st h = some (.inl (pc', ls', st', h'))) : ∃ x i k, st = .long x :: .int i :: .ref k :: st' ∧ k < h.1 ∧ (h.2.2.1 k).1 = 1004 ∧ a_in i (h.2.2.1 k).2 = true ∧ pc' = pc ∧ ls' = ls ∧ h' = a_setL h k i.toNatClampNeg x := by
  unfold a_astL at hs
  split at hs
  · split at hs
    · rename_i hk; cases hs; exact ⟨_, _, _, rfl, hk.1, hk.2.1, hk.2.2, rfl, rfl, rfl⟩
    · cases hs
  · cases hs
theorem a_len_inv {st st' : List Value} {h : aH} (hs : a_len st h = some st') : ∃ k r, st = .ref k :: r ∧ ((k < h.1 ∧ ((h.2.2.1 k).1 = 1000 ∨ (h.2.2.1 k).1 = 1001 ∨ (h.2.2.1 k).1 = 1004)) ∨ (k = aSc ∧ (h.2.2.1 k).1 = 1000)) ∧ st' = .int (Int32.ofNat (h.2.2.1 k).2) :: r := by
  unfold a_len at hs
  split at hs
  · split at hs
    · rename_i hk; cases hs; exact ⟨_, _, rfl, hk, rfl⟩
    · cases hs
  · cases hs
/-- the static table, and the field that holds it -/
def a_Tb (base : Nat) (cs : Nat → Nat) (s : State) : Prop := va_T .int (cs 1) aTab.length (fun j => .int (aTab.getD j 0)) (fun q => base ≤ q) s s.heap ∧ va_Z "TypedTermReader" "CONSTANT_TYPES" "[I" (.ref (cs 1)) (fun q => base ≤ q) s s.heap
section AG3
variable {base : Nat} {cs : Nat → Nat} {D : va_G} {cA : Nat → ClassId} {my : aMe} {c0 : Nat × Nat} {p : Program} {l : Launch} {e : Env} {R : Room} {s : State} {m : MethodId} {args : Array Value} {below : List Frame} {meth : Method} {c : Code} {Q : State → Prop} {pc pc' : Nat} {ls st ls' st' : List Value} {h h' : aH} {d : Nat}
theorem a_M.S {H : Heap} {locs : List Loc} {cells slots : Nat} {lsA : Array Slot} (M : a_M base cs D cA s my c0 ls h H locs cells slots lsA) (hz : s.heap.size ≤ H.size) : va_S (fun q => base ≤ q) s.heap H locs := ⟨hz, fun q _ h2 => M.2.1.2 q (Nat.not_le.mp h2), M.2.2.1⟩
/-- an int of an int array: a cell, the script, the static table -/
theorem s_iald (F : a_Fx my p R s m args meth c d) (K : va_K D aCl (a_tys cA) s) (T : a_Tb base cs s) (hd : decode my.2.1 pc = .ok (.iaload, 1)) (hs : a_ald 1000 st h = some st') (k : a_G base cs D cA my c0 p l e R s m args below meth c Q (pc + 1) ls st' h) : a_G base cs D cA my c0 p l e R s m args below meth c Q pc ls st h := by
  obtain ⟨i, q, r, rfl, hq⟩ := a_ald_inv hs
  intro H locs cells slots lsA M
  rcases hq with ⟨hq, hk, hin, rfl⟩ | ⟨rfl, -, hin, rfl⟩
  · have k := k H locs cells slots lsA M
    show W p l e R s m args below meth c H locs cells slots Q (F0 m pc lsA (.int i :: .ref (a_ad base cs q) :: r.map (a_cv base cs)))
    rcases hq with hq | ⟨rfl, -⟩
    · have hA := M.1.2.2 q hq
      rw [a_E_arr hk (by omega) (by omega)] at hA
      rw [a_ad_lt (Nat.lt_trans hq M.1.2.1)]
      exact va_iald F.1 F.2.1 K (a_P1 hA) 0 0 rfl rfl (a_in_ok hin) hd k
    · obtain ⟨⟨scr, x1, x2, x3, x4, x5⟩, hb⟩ := M.2.2.2.2.2 hk
      have e0 : a_ad base cs aSc = cs 0 := rfl
      rw [e0]
      have hlt : i.toNatClampNeg < (h.2.2.1 aSc).2 := Nat.not_le.mp fun z => (a_in_ok hin) (Or.inr z)
      exact W.iald F.1 F.2.1 (by rw [M.2.1.2 _ hb]; exact x1) x2 x3 (by rw [x4]; exact a_in_ok hin) (x5 _ hlt) rfl rfl hd k
  · have k := k H locs cells slots lsA M
    show W p l e R s m args below meth c H locs cells slots Q (F0 m pc lsA (.int i :: .ref (a_ad base cs aC0) :: r.map (a_cv base cs)))
    have e1 : a_ad base cs aC0 = cs 1 := rfl
    rw [e1]
    obtain ⟨cell, h1, h2, h3, h4, h5, h6, h7⟩ := T.1
    have hlt : i.toNatClampNeg < aTab.length := Nat.not_le.mp fun z => (a_in_ok hin) (Or.inr z)
    refine W.iald F.1 F.2.1 (by rw [M.2.1.2 _ (Nat.not_le.mp h7)]; exact h1) h2 h3 ?_ (h6 _ hlt) rfl rfl hd k
    rintro (z | z)
    · exact (a_in_ok hin) (Or.inl z)
    · omega
theorem s_bald (F : a_Fx my p R s m args meth c d) (K : va_K D aCl (a_tys cA) s) (hd : decode my.2.1 pc = .ok (.baload, 1)) (hs : a_ald 1001 st h = some st') (k : a_G base cs D cA my c0 p l e R s m args below meth c Q (pc + 1) ls st' h) : a_G base cs D cA my c0 p l e R s m args below meth c Q pc ls st h := by
  obtain ⟨i, q, r, rfl, hq⟩ := a_ald_inv hs
  intro H locs cells slots lsA M
  rcases hq with ⟨hq, hk, hin, rfl⟩ | ⟨-, hz, -⟩
  · have k := k H locs cells slots lsA M
    show W p l e R s m args below meth c H locs cells slots Q (F0 m pc lsA (.int i :: .ref (a_ad base cs q) :: r.map (a_cv base cs)))
    rcases hq with hq | ⟨-, hz⟩
    · have hA := M.1.2.2 q hq
      rw [a_E_arr hk (by omega) (by omega)] at hA
      rw [a_ad_lt (Nat.lt_trans hq M.1.2.1)]
      exact va_bald F.1 F.2.1 K (a_P1 hA) 0 1 rfl rfl (a_in_ok hin) hd k
    · exact absurd hz (by decide)
  · exact absurd hz (by decide)
theorem s_lald (F : a_Fx my p R s m args meth c d) (K : va_K D aCl (a_tys cA) s) (hd : decode my.2.1 pc = .ok (.laload, 1)) (hs : a_aldL st h = some st') (k : a_G base cs D cA my c0 p l e R s m args below meth c Q (pc + 1) ls st' h) : a_G base cs D cA my c0 p l e R s m args below meth c Q pc ls st h := by
  obtain ⟨i, q, r, rfl, hq, hk, hin, rfl⟩ := a_aldL_inv hs
  intro H locs cells slots lsA M
  have k := k H locs cells slots lsA M
  show W p l e R s m args below meth c H locs cells slots Q (F0 m pc lsA (.int i :: .ref (a_ad base cs q) :: r.map (a_cv base cs)))
  have hA := M.1.2.2 q hq
  rw [a_E_arl hk] at hA
  rw [a_ad_lt (Nat.lt_trans hq M.1.2.1)]
  exact va_lald F.1 F.2.1 K (a_P1 hA) 0 2 rfl rfl (a_in_ok hin) hd k
theorem s_alen (F : a_Fx my p R s m args meth c d) (K : va_K D aCl (a_tys cA) s) (hd : decode my.2.1 pc = .ok (.arraylength, 1)) (hs : a_len st h = some st') (k : a_G base cs D cA my c0 p l e R s m args below meth c Q (pc + 1) ls st' h) : a_G base cs D cA my c0 p l e R s m args below meth c Q pc ls st h := by
  obtain ⟨q, r, rfl, hq, rfl⟩ := a_len_inv hs
  intro H locs cells slots lsA M
  have k := k H locs cells slots lsA M
  show W p l e R s m args below meth c H locs cells slots Q (F0 m pc lsA (.ref (a_ad base cs q) :: r.map (a_cv base cs)))
  rcases hq with ⟨hq, hk⟩ | ⟨rfl, hk⟩
  · have hA := M.1.2.2 q hq
    rw [a_ad_lt (Nat.lt_trans hq M.1.2.1)]
    rcases hk with e1 | e1 | e1
    · rw [a_E_arr e1 (by omega) (by omega)] at hA
      exact va_alen F.1 F.2.1 K (a_P1 hA) 0 0 rfl rfl rfl hd k
    · rw [a_E_arr e1 (by omega) (by omega)] at hA
      exact va_alen F.1 F.2.1 K (a_P1 hA) 0 1 rfl rfl rfl hd k
    · rw [a_E_arl e1] at hA
      exact va_alen F.1 F.2.1 K (a_P1 hA) 0 2 rfl rfl rfl hd k
  · obtain ⟨⟨scr, x1, x2, x3, x4, x5⟩, hb⟩ := M.2.2.2.2.2 hk
    have e0 : a_ad base cs aSc = cs 0 := rfl
    rw [e0]
    exact W.alen F.1 F.2.1 (by rw [M.2.1.2 _ hb]; exact x1) x2 (by rw [x4] <;> rfl) rfl rfl hd k
theorem a_cell_i (cA : ClassId) (n k : Nat) (f : Nat → Int32) (x : Int32) : (vp_cell cA (n, .inl f)).setSlot k (.int x) = vp_cell cA (n, .inl (fun j => if j = k then x else f j)) := by
  rw [vp_cell_i, vp_cell_i, arrV_store]
  congr 1
  funext j
  by_cases hj : j = k
  · simp [updV, hj]
  · simp [updV, hj]
theorem a_cell_l (cA : ClassId) (n k : Nat) (f : Nat → Int64) (x : Int64) : (vp_cell cA (n, .inr (.inl f))).setSlot k (.long x) = vp_cell cA (n, .inr (.inl (fun j => if j = k then x else f j))) := by
  rw [vp_cell_l, vp_cell_l, arrV_store]
  congr 1
  funext j
  by_cases hj : j = k
  · simp [updV, hj]
  · simp [updV, hj]
theorem s_iast (F : a_Fx my p R s m args meth c d) (K : va_K D aCl (a_tys cA) s) (hd : decode my.2.1 pc = .ok (.iastore, 1)) (hsc : h.1 < aSc) (hs : a_ast 1000 (fun x => x) (pc + 1) ls st h = some (.inl (pc', ls', st', h'))) (k : a_G base cs D cA my c0 p l e R s m args below meth c Q pc' ls' st' h') : a_G base cs D cA my c0 p l e R s m args below meth c Q pc ls st h := by
  obtain ⟨x, i, q, rfl, hq, hk, hin, rfl, rfl, rfl⟩ := a_ast_inv hs
  intro H locs cells slots lsA M
  have hne : aSc ≠ q := fun z => absurd (Nat.lt_trans hq hsc) (by rw [z]; exact Nat.lt_irrefl _)
  have hA := M.1.2.2 q hq
  rw [a_E_arr hk (by omega) (by omega)] at hA
  show W p l e R s m args below meth c H locs cells slots Q (F0 m pc lsA (.int x :: .int i :: .ref (a_ad base cs q) :: st'.map (a_cv base cs)))
  rw [a_ad_lt (Nat.lt_trans hq M.1.2.1)]
  refine W.iast F.1 F.2.1 hA ((K.2 0 _ rfl).1 _ (fun j => .int (h.2.2.2.1 q j))) (fun z => by cases z) (by show ¬ (i < 0 ∨ (arrV _ _ _).slots.size ≤ _); rw [arrV_size]; exact a_in_ok hin) rfl rfl hd fun H1 e1 z1 o1 => ?_
  refine k H1 _ cells slots lsA (M.put hq rfl rfl z1 o1 (fun a ha => a_E_setI _ _ ha) ⟨rfl, a_up_ne _ _ _ hne⟩ ?_)
  rw [a_E_arr (h := a_setI h q i.toNatClampNeg x) hk (by omega) (by omega)]
  show H1[base + q]? = some (vp_cell _ _)
  rw [e1, a_cell_i]
  simp [a_setI, a_up]
theorem s_bast (F : a_Fx my p R s m args meth c d) (K : va_K D aCl (a_tys cA) s) (hd : decode my.2.1 pc = .ok (.bastore, 1)) (hsc : h.1 < aSc) (hs : a_ast 1001 (fun x => vp_nar .byte x) (pc + 1) ls st h = some (.inl (pc', ls', st', h'))) (k : a_G base cs D cA my c0 p l e R s m args below meth c Q pc' ls' st' h') : a_G base cs D cA my c0 p l e R s m args below meth c Q pc ls st h := by
  obtain ⟨x, i, q, rfl, hq, hk, hin, rfl, rfl, rfl⟩ := a_ast_inv hs
  intro H locs cells slots lsA M
  have hne : aSc ≠ q := fun z => absurd (Nat.lt_trans hq hsc) (by rw [z]; exact Nat.lt_irrefl _)
  have hA := M.1.2.2 q hq
  rw [a_E_arr hk (by omega) (by omega)] at hA
  show W p l e R s m args below meth c H locs cells slots Q (F0 m pc lsA (.int x :: .int i :: .ref (a_ad base cs q) :: st'.map (a_cv base cs)))
  rw [a_ad_lt (Nat.lt_trans hq M.1.2.1)]
  refine W.bast F.1 F.2.1 hA ((K.2 1 _ rfl).1 _ (fun j => .int (h.2.2.2.1 q j))) (fun z => by cases z) (by show ¬ (i < 0 ∨ (arrV _ _ _).slots.size ≤ _); rw [arrV_size]; exact a_in_ok hin) rfl rfl hd fun H1 e1 z1 o1 => ?_
  refine k H1 _ cells slots lsA (M.put hq rfl rfl z1 o1 (fun a ha => a_E_setI _ _ ha) ⟨rfl, a_up_ne _ _ _ hne⟩ ?_)
  rw [a_E_arr (h := a_setI h q i.toNatClampNeg (vp_nar .byte x)) hk (by omega) (by omega)]
  show H1[base + q]? = some (vp_cell _ _)
  rw [e1, narrow_byte, a_cell_i]
  simp [a_setI, a_up, vp_nar_byte]
theorem s_last (F : a_Fx my p R s m args meth c d) (K : va_K D aCl (a_tys cA) s) (hd : decode my.2.1 pc = .ok (.lastore, 1)) (hs : a_astL (pc + 1) ls st h = some (.inl (pc', ls', st', h'))) (k : a_G base cs D cA my c0 p l e R s m args below meth c Q pc' ls' st' h') : a_G base cs D cA my c0 p l e R s m args below meth c Q pc ls st h := by
  obtain ⟨x, i, q, rfl, hq, hk, hin, rfl, rfl, rfl⟩ := a_astL_inv hs
  intro H locs cells slots lsA M
  have hA := M.1.2.2 q hq
  rw [a_E_arl hk] at hA
  show W p l e R s m args below meth c H locs cells slots Q (F0 m pc lsA (.long x :: .int i :: .ref (a_ad base cs q) :: st'.map (a_cv base cs)))
  rw [a_ad_lt (Nat.lt_trans hq M.1.2.1)]
  refine W.last F.1 F.2.1 hA ((K.2 2 _ rfl).1 _ (fun j => .long (h.2.2.2.2.1 q j))) (fun z => by cases z) (by show ¬ (i < 0 ∨ (arrV _ _ _).slots.size ≤ _); rw [arrV_size]; exact a_in_ok hin) rfl rfl hd fun H1 e1 z1 o1 => ?_
  refine k H1 _ cells slots lsA (M.put hq rfl rfl z1 o1 (fun a ha => a_E_setL _ _ ha) ⟨rfl, rfl⟩ ?_)
  rw [a_E_arl (h := a_setL h q i.toNatClampNeg x) hk]
  show H1[base + q]? = some (vp_cell _ _)
  rw [e1, a_cell_l]
  simp [a_setL, a_up]
end AG3
