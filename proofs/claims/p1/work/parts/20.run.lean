/-! THE RUN IS SOUND, but for three things that have parts of their own: the JDK's methods, the law's helpers that catch, the texts of ldc (their soundness comes as hypotheses here, and is proved behind) -/
/-- calls of the JDK's methods -/
def a_JS : Prop := ∀ (base : Nat) (cs : Nat → Nat) (D : va_G) (cA : Nat → ClassId) (my : aMe) (c0 : Nat × Nat) (p : Program) (l : Launch) (e : Env) (R : Room) (s : State) (m : MethodId) (args : Array Value) (below : List Frame) (meth : Method) (c : Code) (Q : State → Prop) (pc d : Nat) (ls as st : List Value) (h h' : aH) (v : Option Value) (y : Nat) (i : Instr) (z b : Nat) (w : List Nat), a_Fx my p R s m args meth c (d + 1) → a_Cx base cs D cA h s → aMeL[y]? = some my → aCode y pc = some (i, z, b, w) → a_ck1 my pc (i, z, b, w) = true → (∃ j, i = .invokevirtual j ∨ i = .invokestatic j) → decode my.2.1 pc = .ok (i, 3) → aMeL[z]? = none → a_jdk z as h = some (.inl v, h') → (st.map fun v => v.category).sum ≤ 8 → h.1 < aSc → h.2.1.1 ≤ c0.1 + R.cells → h.2.1.2 ≤ c0.2 + R.slots → a_G base cs D cA my c0 p l e R s m args below meth c Q (pc + 3) ls (v.toList ++ st) h' → a_G base cs D cA my c0 p l e R s m args below meth c Q pc ls (as.reverse ++ st) h
/-- soundness of a run of n steps, whatever its end: a return, a throw of its own, a catch -/
def a_RunG (l : Launch) (n : Nat) : Prop := ∀ (d y pc : Nat) (ls st : List Value) (h : aH) (r : aR) (my : aMe), a_run n d y pc ls st h = some r → aMeL[y]? = some my →
  ∀ (base : Nat) (cs : Nat → Nat) (D : va_G) (cA : Nat → ClassId) (c0 : Nat × Nat) (p : Program) (e : Env) (R : Room) (s : State) (m : MethodId) (args : Array Value) (below : List Frame) (meth : Method) (c : Code) (Q : State → Prop),
  a_Fx my p R s m args meth c d → a_Cx base cs D cA h s → h.1 < aSc → r.2.2.1.1 ≤ c0.1 + R.cells → r.2.2.1.2 ≤ c0.2 + R.slots →
  (∀ (pc' : Nat) (ls' : List Value) (x : Int32), r.1 = .inl (some (.int x)) → decode my.2.1 pc' = .ok (.ireturn, 1) → (my.2.2.2.1 = some .int ∨ (my.2.2.2.1 = some .boolean ∧ (x = 0 ∨ x = 1))) → a_G base cs D cA my c0 p l e R s m args below meth c Q pc' ls' [.int x] r.2) →
  (∀ (pc' : Nat) (ls' : List Value), r.1 = .inl none → decode my.2.1 pc' = .ok (.return_, 1) → my.2.2.2.1 = none → a_G base cs D cA my c0 p l e R s m args below meth c Q pc' ls' [] r.2) →
  (my.2.2.2.2.2.2.2 = true → ∀ (k pc' : Nat) (ls' st' : List Value) (h2 : aH) (i : Instr) (j z b ci : Nat) (w : List Nat), k < n → aCode y pc' = some (i, z, b, w) → (i = .invokevirtual j ∨ i = .invokestatic j ∨ i = .invokespecial j) → h2.1 < aSc → a_Cx base cs D cA h2 s → b / 2 ≤ st'.length → ((st'.drop (b / 2)).map fun v => v.category).sum ≤ 8 → a_call k d z (st'.take (b / 2)).reverse h2 = some (.inr ci, r.2) → r.1 = .inl (some (.int 1)) → decode my.2.1 pc' = .ok (i, 3) → a_G base cs D cA my c0 p l e R s m args below meth c Q pc' ls' st' h2) →
  (∀ (pc' : Nat) (ls' : List Value) (h2 : aH) (j ci : Nat) (w : List Nat), aCode y pc' = some (.new j, ci, 1, w) → h2.1 + 1 < aSc → a_Cx base cs D cA h2 s → r = (.inr ci, a_mk ci 6 h2) → decode my.2.1 pc' = .ok (.new j, 3) → a_G base cs D cA my c0 p l e R s m args below meth c Q pc' ls' [] h2) →
  a_G base cs D cA my c0 p l e R s m args below meth c Q pc ls st h
theorem a_RunG.S {l : Launch} {n : Nat} (h : a_RunG l n) : a_RunS l n := by
  intro d y pc ls st g v hf my hs hmy hcat base cs D cA c0 p e R s m args below meth c Q F hC hsz hR1 hR2 hE1 hE2
  refine h d y pc ls st g (.inl v, hf) my hs hmy base cs D cA c0 p e R s m args below meth c Q F hC hsz hR1 hR2 (fun pc' ls' x hx => hE1 pc' ls' x (by cases hx; rfl)) (fun pc' ls' hx => hE2 pc' ls' (by cases hx; rfl)) (fun hc => ?_) (fun _ _ _ _ _ _ _ _ _ hr => by cases hr)
  rw [hcat] at hc
  cases hc
/-- calls of the law's helpers -/
def a_HS (l : Launch) : Prop := ∀ (n : Nat), (∀ k, k ≤ n → a_RunG l k) → ∀ (base : Nat) (cs : Nat → Nat) (D : va_G) (cA : Nat → ClassId) (my : aMe) (c0 : Nat × Nat) (p : Program) (e : Env) (R : Room) (s : State) (m : MethodId) (args : Array Value) (below : List Frame) (meth : Method) (c : Code) (Q : State → Prop) (pc d : Nat) (ls as st : List Value) (h h' : aH) (v : Option Value) (i z b : Nat) (w : List Nat) (mz : aMe), a_Fx my p R s m args meth c (d + 1) → a_Cx base cs D cA h s → a_ck1 my pc (.invokestatic i, z, b, w) = true → decode my.2.1 pc = .ok (.invokestatic i, 3) → aMeL[z]? = some mz → mz.2.2.2.2.2.2.2 = true → a_ok mz as h = true → a_run n d z 0 (a_loc mz as) [] h = some (.inl v, h') → (st.map fun v => v.category).sum ≤ 8 → h.1 < aSc → h'.2.1.1 ≤ c0.1 + R.cells → h'.2.1.2 ≤ c0.2 + R.slots → a_G base cs D cA my c0 p l e R s m args below meth c Q (pc + 3) ls (v.toList ++ st) h' → a_G base cs D cA my c0 p l e R s m args below meth c Q pc ls (as.reverse ++ st) h
/-- texts -/
def a_LS : Prop := ∀ (base : Nat) (cs : Nat → Nat) (D : va_G) (cA : Nat → ClassId) (my : aMe) (c0 : Nat × Nat) (p : Program) (l : Launch) (e : Env) (R : Room) (s : State) (m : MethodId) (args : Array Value) (below : List Frame) (meth : Method) (c : Code) (Q : State → Prop) (pc d y a b j : Nat) (w : List Nat) (ls st : List Value) (h : aH) (i : Instr), a_Fx my p R s m args meth c d → a_Cx base cs D cA h s → aMeL[y]? = some my → aCode y pc = some (i, a, b, w) → ¬ b = 0 → (i = .ldc j ∨ i = .ldc_w j) → decode my.2.1 pc = .ok (i, a_il i) → a_G base cs D cA my c0 p l e R s m args below meth c Q (pc + a_il i) ls (.ref (aC0 + a) :: st) h → a_G base cs D cA my c0 p l e R s m args below meth c Q pc ls st h
theorem a_objI : Cond.instanceMethod objectInit ∈ lw_good ∧ Cond.code objectInit ⟨#[0xb1]⟩ 1 none ∈ lw_good := ⟨lw_good_in (by decide +kernel) rfl, lw_good_in (by decide +kernel) rfl⟩
theorem a_getst : Cond.fieldLinkNest "TypedTermReader$ConstantTable" 47 "TypedTermReader" "CONSTANT_TYPES" "[I" "TypedTermReader" ∈ lw_tbl := by decide +kernel
def a_gstB (my : aMe) (l : List (Option aI)) : Bool := l.all (fun o => match o with
  | some (.getstatic j, _) => decide (my.1.cls = "TypedTermReader$ConstantTable" ∧ j = 47)
  | _ => true)
set_option maxRecDepth 100000 in
theorem a_gstA : (aMeL.zip aMs).all (fun q => a_gstB q.1 q.2) = true := by decide +kernel
theorem a_gst {y pc j a b : Nat} {w : List Nat} {my : aMe} (hm : aMeL[y]? = some my) (hc : aCode y pc = some (.getstatic j, a, b, w)) : my.1.cls = "TypedTermReader$ConstantTable" ∧ j = 47 := by
  unfold aCode at hc
  cases hl : aMs[y]? with
  | none => rw [hl] at hc; cases hc
  | some l =>
    rw [hl] at hc
    dsimp only at hc
    cases hp : l[pc]? with
    | none => rw [hp] at hc; cases hc
    | some o =>
      rw [hp] at hc
      dsimp only at hc
      subst hc
      have hz : (my, l) ∈ aMeL.zip aMs := by
        refine List.mem_of_getElem? (i := y) ?_
        rw [List.getElem?_zip_eq_some]
        exact ⟨hm, hl⟩
      have h1 := List.all_eq_true.mp a_gstA _ hz
      have h2 := List.all_eq_true.mp h1 _ (List.mem_of_getElem? hp)
      simpa using h2
