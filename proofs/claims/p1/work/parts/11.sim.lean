/-! THE ABSTRACT HEAP AND THE REAL ONE -/
def a_ad (base : Nat) (cs : Nat → Nat) (k : Nat) : Nat := if k < aSc then base + k else cs (k - aSc)
def a_cv (base : Nat) (cs : Nat → Nat) (v : Value) : Value := match v with
  | .ref k => .ref (a_ad base cs k)
  | .int x => .int x
  | .long x => .long x
  | .null => .null
  | .float x => .float x
  | .double x => .double x
  | .retAddr x => .retAddr x
theorem a_cv_cat (base : Nat) (cs : Nat → Nat) (v : Value) : (a_cv base cs v).category = v.category := by cases v <;> rfl
theorem a_cv_rf (base : Nat) (cs : Nat → Nat) (r : Option Nat) : a_cv base cs (va_rf r) = va_rf (r.map (a_ad base cs)) := by cases r <;> rfl
theorem a_ad_lt {base : Nat} {cs : Nat → Nat} {k : Nat} (h : k < aSc) : a_ad base cs k = base + k := if_pos h
/-- what a cell holds, as the kit has it -/
def a_E (base : Nat) (cs : Nat → Nat) (cA : Nat → ClassId) (h : aH) (k : Nat) : va_E :=
  if (h.2.2.1 k).1 < 1000 then .inr ((h.2.2.1 k).1, (List.range (h.2.2.1 k).2).map (fun j => a_cv base cs (a_slot h k j (aFt (h.2.2.1 k).1 j))))
  else if (h.2.2.1 k).1 = 1004 then .inl (cA 1004, (h.2.2.1 k).2, .inr (.inl (h.2.2.2.2.1 k)))
  else .inl (cA (h.2.2.1 k).1, (h.2.2.1 k).2, .inl (h.2.2.2.1 k))
def a_Sim (base : Nat) (cs : Nat → Nat) (D : va_G) (cA : Nat → ClassId) (h : aH) (H : Heap) : Prop := H.size = base + h.1 ∧ h.1 < aSc ∧ ∀ k, k < h.1 → va_at D aCl (base + k, a_E base cs cA h k) H
def a_tys (cA : Nat → ClassId) : List (ClassId × FieldType) := [(cA 1000, .int), (cA 1001, .byte), (cA 1004, .long)]
/-- the locals: an unset one is .retAddr 0 -/
def a_ls (base : Nat) (cs : Nat → Nat) (nL : Nat) (ls : List Value) (lsA : Array Slot) : Prop := lsA.size = nL ∧ lv_wf lsA ∧ ls.length = nL ∧ ∀ (i : Nat) (v : Value), ls[i]? = some v → v = .retAddr 0 ∨ (v.category = 1 ∧ lsA[i]? = some (.val (a_cv base cs v)))
theorem a_ls_at {base : Nat} {cs : Nat → Nat} {nL : Nat} {ls : List Value} {lsA : Array Slot} (h : a_ls base cs nL ls lsA) {i : Nat} {v : Value} (hv : ls[i]? = some v) (hn : v ≠ .retAddr 0) : lsA[i]? = some (.val (a_cv base cs v)) := ((h.2.2.2 i v hv).resolve_left hn).2
def a_prs (base : Nat) (cs : Nat → Nat) (ls : List Value) : List (Nat × Value) := (List.range ls.length).filterMap (fun j => match ls[j]? with
  | some v => if v = .retAddr 0 then none else some (j, a_cv base cs v)
  | none => none)
theorem a_prs_mem {base : Nat} {cs : Nat → Nat} {ls : List Value} {q : Nat × Value} (h : q ∈ a_prs base cs ls) : ∃ v, ls[q.1]? = some v ∧ v ≠ .retAddr 0 ∧ q.2 = a_cv base cs v := by
  obtain ⟨j, hj, hq⟩ := List.mem_filterMap.mp h
  cases hv : ls[j]? with
  | none => rw [hv] at hq; cases hq
  | some v =>
    rw [hv] at hq
    dsimp only at hq
    by_cases hr : v = .retAddr 0
    · rw [if_pos hr] at hq; cases hq
    · rw [if_neg hr] at hq
      cases hq
      exact ⟨v, hv, hr, rfl⟩
theorem a_prs_in {base : Nat} {cs : Nat → Nat} {ls : List Value} {j : Nat} {v : Value} (hv : ls[j]? = some v) (hr : v ≠ .retAddr 0) : (j, a_cv base cs v) ∈ a_prs base cs ls := by
  refine List.mem_filterMap.mpr ⟨j, List.mem_range.mpr (List.getElem?_eq_some_iff.mp hv).1, ?_⟩
  rw [hv]
  dsimp only
  rw [if_neg hr]
theorem a_ls_has {base : Nat} {cs : Nat → Nat} {nL : Nat} {ls : List Value} {lsA : Array Slot} (h : a_ls base cs nL ls lsA) : lv_has lsA nL (a_prs base cs ls) := by
  refine ⟨h.1, h.2.1, fun q hq => ?_⟩
  obtain ⟨v, h1, h2, h3⟩ := a_prs_mem hq
  rw [h3]
  exact a_ls_at h h1 h2
/-- a store of a value of one slot -/
theorem a_ls_set {base : Nat} {cs : Nat → Nat} {nL : Nat} {ls : List Value} {lsA lsB : Array Slot} {i : Nat} {v : Value} (h : a_ls base cs nL ls lsA) (hc : v.category = 1) (hi : i < nL)
    (hb : lv_has lsB nL ((i, a_cv base cs v) :: (a_prs base cs ls).filter (fun q => !(q.1 == i) && !(q.1 + 1 == i && q.2.category == 2)))) : a_ls base cs nL (ls.set i v) lsB := by
  refine ⟨hb.1, hb.2.1, by rw [List.length_set]; exact h.2.2.1, fun j w hj => ?_⟩
  by_cases hji : j = i
  · subst hji
    rw [List.getElem?_set_self (by rw [h.2.2.1]; exact hi)] at hj
    cases hj
    exact Or.inr ⟨hc, hb.2.2 (j, a_cv base cs v) List.mem_cons_self⟩
  · rw [List.getElem?_set_ne (Ne.symm hji)] at hj
    by_cases hw : w = .retAddr 0
    · exact Or.inl hw
    · have h1 := (h.2.2.2 j w hj).resolve_left hw
      refine Or.inr ⟨h1.1, hb.2.2 (j, a_cv base cs w) (List.mem_cons_of_mem _ (List.mem_filter.mpr ⟨a_prs_in hj hw, ?_⟩))⟩
      simp [hji, a_cv_cat, h1.1]
theorem a_E_obj {base : Nat} {cs : Nat → Nat} {cA : Nat → ClassId} {h : aH} {k c : Nat} (hc : (h.2.2.1 k).1 = c) (hl : c < 1000) : a_E base cs cA h k = .inr (c, (List.range (h.2.2.1 k).2).map (fun j => a_cv base cs (a_slot h k j (aFt c j)))) := by
  unfold a_E
  rw [hc, if_pos hl]
theorem a_E_arr {base : Nat} {cs : Nat → Nat} {cA : Nat → ClassId} {h : aH} {k c : Nat} (hc : (h.2.2.1 k).1 = c) (hl : ¬ c < 1000) (h4 : ¬ c = 1004) : a_E base cs cA h k = .inl (cA c, (h.2.2.1 k).2, .inl (h.2.2.2.1 k)) := by
  unfold a_E
  rw [hc, if_neg hl, if_neg h4]
theorem a_E_arl {base : Nat} {cs : Nat → Nat} {cA : Nat → ClassId} {h : aH} {k : Nat} (hc : (h.2.2.1 k).1 = 1004) : a_E base cs cA h k = .inl (cA 1004, (h.2.2.1 k).2, .inr (.inl (h.2.2.2.2.1 k))) := by
  unfold a_E
  rw [hc, if_neg (by decide), if_pos rfl]
theorem a_up_ne {α : Type} (f : Nat → Nat → α) {k a : Nat} (i : Nat) (v : α) (h : a ≠ k) : a_up f k i v a = f a := if_neg h
theorem a_up_eq {α : Type} (f : Nat → Nat → α) (k i : Nat) (v : α) : a_up f k i v k = fun b => if b = i then v else f k b := if_pos rfl
/-- a cell's picture comes of its own rows alone -/
theorem a_E_ext {base : Nat} {cs : Nat → Nat} {cA : Nat → ClassId} {h h' : aH} {a : Nat} (h1 : h'.2.2.1 a = h.2.2.1 a) (h2 : h'.2.2.2.1 a = h.2.2.2.1 a) (h3 : h'.2.2.2.2.1 a = h.2.2.2.2.1 a) (h4 : h'.2.2.2.2.2 a = h.2.2.2.2.2 a) : a_E base cs cA h' a = a_E base cs cA h a := by
  have hs : ∀ j t, a_slot h' a j t = a_slot h a j t := fun j t => by unfold a_slot; rw [h2, h3, h4]
  unfold a_E
  rw [h1, h2, h3]
  simp only [hs]
theorem a_E_setI {base : Nat} {cs : Nat → Nat} {cA : Nat → ClassId} {h : aH} {k a : Nat} (j : Nat) (x : Int32) (ha : a ≠ k) : a_E base cs cA (a_setI h k j x) a = a_E base cs cA h a := a_E_ext rfl (a_up_ne _ _ _ ha) rfl rfl
theorem a_E_setL {base : Nat} {cs : Nat → Nat} {cA : Nat → ClassId} {h : aH} {k a : Nat} (j : Nat) (x : Int64) (ha : a ≠ k) : a_E base cs cA (a_setL h k j x) a = a_E base cs cA h a := a_E_ext rfl rfl (a_up_ne _ _ _ ha) rfl
theorem a_E_setR {base : Nat} {cs : Nat → Nat} {cA : Nat → ClassId} {h : aH} {k a : Nat} (j : Nat) (x : Option Nat) (ha : a ≠ k) : a_E base cs cA (a_setR h k j x) a = a_E base cs cA h a := a_E_ext rfl rfl rfl (a_up_ne _ _ _ ha)
theorem a_E_mk {base : Nat} {cs : Nat → Nat} {cA : Nat → ClassId} {h : aH} {a : Nat} (c len : Nat) (ha : a ≠ h.1) : a_E base cs cA (a_mk c len h) a = a_E base cs cA h a := a_E_ext (if_neg ha) (if_neg ha) (if_neg ha) (if_neg ha)
/-- one cell is written, the others stay -/
theorem a_Sim.put {base : Nat} {cs : Nat → Nat} {D : va_G} {cA : Nat → ClassId} {h h' : aH} {H H1 : Heap} {k : Nat} (S : a_Sim base cs D cA h H) (hn : h'.1 = h.1) (z : H1.size = H.size) (oq : ∀ q : Nat, q ≠ base + k → H1[q]? = H[q]?)
    (he : ∀ a, a ≠ k → a_E base cs cA h' a = a_E base cs cA h a) (hk : va_at D aCl (base + k, a_E base cs cA h' k) H1) : a_Sim base cs D cA h' H1 := by
  refine ⟨by rw [z, hn]; exact S.1, by rw [hn]; exact S.2.1, fun a ha => ?_⟩
  by_cases hak : a = k
  · subst hak
    exact hk
  · rw [he a hak]
    rw [hn] at ha
    exact (S.2.2 a ha).kept (oq (base + a) (by omega))
/-- a cell is made -/
theorem a_Sim.mk {base : Nat} {cs : Nat → Nat} {D : va_G} {cA : Nat → ClassId} {h : aH} {H H1 : Heap} {c len : Nat} (S : a_Sim base cs D cA h H) (hl : h.1 + 1 < aSc) (z : H1.size = H.size + 1) (oq : ∀ q : Nat, q < H.size → H1[q]? = H[q]?)
    (hk : va_at D aCl (base + h.1, a_E base cs cA (a_mk c len h) h.1) H1) : a_Sim base cs D cA (a_mk c len h) H1 := by
  refine ⟨by rw [z, S.1]; show base + h.1 + 1 = base + (h.1 + 1); omega, hl, fun a ha => ?_⟩
  have ha2 : a < h.1 + 1 := ha
  by_cases hak : a = h.1
  · subst hak
    exact hk
  · rw [a_E_mk c len hak]
    have ha3 : a < h.1 := by omega
    exact (S.2.2 a ha3).kept (oq (base + a) (by rw [S.1]; omega))
