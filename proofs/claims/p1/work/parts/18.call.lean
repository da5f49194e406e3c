/-! A METHOD'S ENTRY, AND A CALL OF A METHOD OF OURS -/
/-- the locals at the entry -/
theorem a_ls_entry {base : Nat} {cs : Nat → Nat} {mz : aMe} {as : List Value} (hc : ∀ v ∈ as, v.category = 1) (hl : as.length ≤ mz.2.2.1) :
    a_ls base cs mz.2.2.1 (a_loc mz as) ((lg_sl (as.map (a_cv base cs)) ++ List.replicate (mz.2.2.1 - (lg_sl (as.map (a_cv base cs))).length) Slot.unset).toArray) := by
  have hsl : ∀ l : List Value, (∀ v ∈ l, v.category = 1) → lg_sl l = l.map Slot.val := by
    intro l
    induction l with
    | nil => intro _; rfl
    | cons a l ih =>
      intro h
      have h1 := h a List.mem_cons_self
      have h2 := ih (fun v hv => h v (List.mem_cons_of_mem _ hv))
      unfold lg_sl at h2 ⊢
      rw [List.flatMap_cons, h2, h1]
      rfl
  have e1 : lg_sl (as.map (a_cv base cs)) = as.map (fun v => Slot.val (a_cv base cs v)) := by
    rw [hsl _ (fun v hv => by obtain ⟨w, hw, rfl⟩ := List.mem_map.mp hv; rw [a_cv_cat]; exact hc w hw), List.map_map]
    rfl
  have hll : (lg_sl (as.map (a_cv base cs))).length = as.length := by rw [e1, List.length_map]
  have hh := lv_entry (as.map (a_cv base cs)) (n := mz.2.2.1) (by rw [hll]; exact hl)
  refine ⟨hh.1, hh.2.1, ?_, fun i v hi => ?_⟩
  · unfold a_loc
    rw [List.length_append, List.length_replicate]
    omega
  · unfold a_loc at hi
    by_cases hk : i < as.length
    · rw [List.getElem?_append_left hk] at hi
      refine Or.inr ⟨hc v (List.mem_of_getElem? hi), ?_⟩
      rw [e1]
      have : (as.map (fun v => Slot.val (a_cv base cs v)))[i]? = some (Slot.val (a_cv base cs v)) := by rw [List.getElem?_map, hi]; rfl
      rw [List.getElem?_toArray, List.getElem?_append_left (by rw [List.length_map]; exact hk)]
      exact this
    · rw [List.getElem?_append_right (by omega)] at hi
      exact Or.inl (List.eq_of_mem_replicate (List.mem_of_getElem? hi))
def a_rm (d mc ms : Nat) : Room := { frames := d + 16, cells := mc, slots := ms, locals := d * 64 + 1000 }
/-- soundness of a run of n steps, for a method that doesn't catch, at its normal end -/
def a_RunS (l : Launch) (n : Nat) : Prop := ∀ (d y pc : Nat) (ls st : List Value) (h : aH) (v : Option Value) (hf : aH) (my : aMe), a_run n d y pc ls st h = some (.inl v, hf) → aMeL[y]? = some my → my.2.2.2.2.2.2.2 = false →
  ∀ (base : Nat) (cs : Nat → Nat) (D : va_G) (cA : Nat → ClassId) (c0 : Nat × Nat) (p : Program) (e : Env) (R : Room) (s : State) (m : MethodId) (args : Array Value) (below : List Frame) (meth : Method) (c : Code) (Q : State → Prop),
  a_Fx my p R s m args meth c d → a_Cx base cs D cA h s → h.1 < aSc → hf.2.1.1 ≤ c0.1 + R.cells → hf.2.1.2 ≤ c0.2 + R.slots →
  (∀ (pc' : Nat) (ls' : List Value) (x : Int32), v = some (.int x) → decode my.2.1 pc' = .ok (.ireturn, 1) → (my.2.2.2.1 = some .int ∨ (my.2.2.2.1 = some .boolean ∧ (x = 0 ∨ x = 1))) → a_G base cs D cA my c0 p l e R s m args below meth c Q pc' ls' [.int x] hf) →
  (∀ (pc' : Nat) (ls' : List Value), v = none → decode my.2.1 pc' = .ok (.return_, 1) → my.2.2.2.1 = none → a_G base cs D cA my c0 p l e R s m args below meth c Q pc' ls' [] hf) →
  a_G base cs D cA my c0 p l e R s m args below meth c Q pc ls st h
theorem a_plain_me {y : Nat} {my : aMe} (hm : aMeL[y]? = some my) (h1 : 1 ≤ y) (hc : my.2.2.2.2.2.2.2 = false) : a_plain y = true := by
  unfold a_plain
  rw [hm, Bool.and_eq_true]
  have hl : aMeL.length = 208 := by decide +kernel
  refine ⟨?_, by show (!my.2.2.2.2.2.2.2) = true; rw [hc]; rfl⟩
  simp only [decide_eq_true_eq]
  exact ⟨h1, by rw [← hl]; exact (List.getElem?_eq_some_iff.mp hm).1⟩
/-- the contract of a method of ours, out of a run of the abstract machine -/
theorem a_met {n : Nat} {l : Launch} (hR : a_RunS l n) {d z : Nat} {as : List Value} {g h' : aH} {v : Option Value} {mz : aMe} (hz : aMeL[z]? = some mz) (h1 : 1 ≤ z) (hc : mz.2.2.2.2.2.2.2 = false) (hok : a_ok mz as g = true) (hrun : a_run n d z 0 (a_loc mz as) [] g = some (.inl v, h')) (hg : g.1 < aSc)
    (base : Nat) (cs : Nat → Nat) (D : va_G) (cA : Nat → ClassId) :
    Met l mz.1 (Cond.code mz.1 mz.2.1 mz.2.2.1 mz.2.2.2.1 :: lw_good) (a_rm d (h'.2.1.1 - g.2.1.1) (h'.2.1.2 - g.2.1.2)) (a_Pc base cs D cA g as) (a_Qc base cs D cA v h') (h'.2.1.1 - g.2.1.1) (h'.2.1.2 - g.2.1.2) (fun q => base ≤ q) := by
  have hge := a_ge_run _ _ _ _ _ _ _ _ hrun hg
  have hy : z < 208 := by
    have hl : aMeL.length = 208 := by decide +kernel
    rw [← hl]; exact (List.getElem?_eq_some_iff.mp hz).1
  have hmk := a_mokA z hy
  unfold a_mok at hmk
  rw [hz] at hmk
  simp only [Bool.and_eq_true, decide_eq_true_eq] at hmk
  have hok2 := hok
  unfold a_ok at hok2
  simp only [Bool.and_eq_true, decide_eq_true_eq, List.all_eq_true] at hok2
  refine Met.ofW (cc := mz.2.1) (maxL := mz.2.2.1) (ret := mz.2.2.2.1) hmk.1.1.1.1 rfl ?_
  intro p e s m args below meth c s₁ B hml hv
  obtain ⟨rfl, hS, hC⟩ := hv
  have hts := atoms_spec (ws := Cond.code mz.1 mz.2.1 mz.2.2.1 mz.2.2.2.1 :: lw_good) B.pre
  have F : a_Fx mz p (a_rm d (h'.2.1.1 - g.2.1.1) (h'.2.1.2 - g.2.1.2)) s m ((as.map (a_cv base cs)).toArray) meth c d :=
    ⟨B.exec, B.bytes, hml, findClass_of_methodNamed B.named, fun w hw => hts w (List.mem_cons_of_mem _ hw), B.returns, B.notSynchronized, fun hi => by rw [(name_of_methodNamed B.named B.method).1]; exact hi, Nat.le_refl _, Nat.le_refl _, hC.2.1⟩
  rw [lg_entry_eq]
  have hb : base ≤ s.heap.size := by rw [hS.1]; exact Nat.le_add_right _ _
  have M0 : a_M base cs D cA s mz g.2.1 (a_loc mz as) g s.heap [] 0 0 ((lg_sl (as.map (a_cv base cs)) ++ List.replicate (mz.2.2.1 - (lg_sl (as.map (a_cv base cs))).length) Slot.unset).toArray) :=
    ⟨hS, ⟨hb, fun _ _ => rfl⟩, fun x hx => (by cases hx), a_ls_entry (fun v hv => hok2.1.2 v hv) hok2.1.1.2, ⟨rfl, rfl⟩, hC.2.2.2.1⟩
  refine hR d z 0 (a_loc mz as) [] g v h' mz hrun hz hc base cs D cA g.2.1 p e _ s m _ below meth c _ F hC hg ?_ ?_ ?_ ?_ s.heap [] 0 0 _ M0
  · show h'.2.1.1 ≤ g.2.1.1 + (h'.2.1.1 - g.2.1.1)
    have := hge.2.2.1
    omega
  · show h'.2.1.2 ≤ g.2.1.2 + (h'.2.1.2 - g.2.1.2)
    have := hge.2.2.2.1
    omega
  · intro pc' ls' x hx hd ht H locs cells slots lsA M
    have e1 : cells = h'.2.1.1 - g.2.1.1 := by have := M.2.2.2.2.1.1; omega
    have e2 : slots = h'.2.1.2 - g.2.1.2 := by have := M.2.2.2.2.1.2; omega
    subst e1
    subst e2
    subst hx
    have hq : ∀ t : State, t.heap = H → s.WarmedH t.vm → a_Qc base cs D cA (some (.int x)) h' (as.map (a_cv base cs)).toArray s (.returned (some (.int x))) t := fun t ht _ => ⟨rfl, by rw [ht]; exact M.1, fun q hq => by rw [ht]; exact M.2.1.2 q hq⟩
    rcases ht with ht | ⟨ht, hx01⟩
    · exact W.iret F.1 F.2.1 (by rw [F.2.2.2.2.2.1]; exact ht) hq M.2.2.1 hd F.2.2.2.2.2.2.1
    · exact W.zret (ty := .boolean) F.1 F.2.1 (by rw [F.2.2.2.2.2.1]; exact ht) (by rcases hx01 with rfl | rfl <;> decide) hq M.2.2.1 hd F.2.2.2.2.2.2.1
  · intro pc' ls' hx hd ht H locs cells slots lsA M
    have e1 : cells = h'.2.1.1 - g.2.1.1 := by have := M.2.2.2.2.1.1; omega
    have e2 : slots = h'.2.1.2 - g.2.1.2 := by have := M.2.2.2.2.1.2; omega
    subst e1
    subst e2
    subst hx
    exact W.vret F.1 F.2.1 (by rw [F.2.2.2.2.2.1]; exact ht) (fun t ht _ => ⟨rfl, by rw [ht]; exact M.1, fun q hq => by rw [ht]; exact M.2.1.2 q hq⟩) M.2.2.1 hd F.2.2.2.2.2.2.1
