/-! THE CONTEXT of every frame: tables, the static table, the texts, the script; a method's start and end in these words -/
def a_Ss (base : Nat) (cs adV : Nat → Nat) (U : State) : Prop := vk_S 22 (aStr.map List.length) (aStr.map (fun l => l.map Int32.ofNat)) (fun i => cs (i + 2)) adV (fun q => base ≤ q) U U.heap ∧ (∀ (i : Nat) (q : String × Nat × String), aSrf[i]? = some q → vk_R q.1 q.2.1 q.2.2 (cs (i + 2)) U) ∧ va_Z "java/lang/String" "COMPACT_STRINGS" "Z" (.int 1) (fun q => base ≤ q) U U.heap ∧ va_Zq "jdk/internal/util/Preconditions" "SIOOBE_FORMATTER" "Ljava/util/function/BiFunction;" (fun q => base ≤ q) U U.heap
/-- a static field that lies there and holds a reference or null -/
def a_LSt (base : Nat) (C n d : String) (U : State) : Prop := ∃ (c : ClassId) (k : Class) (i : Nat) (f : Field) (a : Nat) (cell : Cell), U.vm.findClass C = some c ∧ U.fieldFound? C n d = some (c, k, i, f) ∧ f.isStatic = true ∧ k.statics = some a ∧ U.heap[a]? = some cell ∧ cell.vm.isStatics = true ∧ cell.cls = c ∧ f.slot < cell.slots.size ∧ k.staticTypes[f.slot]? = some f.type ∧ a < base ∧ ∃ v : Value, cell.slots[f.slot]? = some v ∧ (v = .null ∨ ∃ t, v = .ref t)
theorem a_LSt.go {base : Nat} {C n d : String} {s U : State} (h : a_LSt base C n d s) (hW : s.WarmedH U.vm) (hq : ∀ q, q < base → U.heap[q]? = s.heap[q]?) : a_LSt base C n d U := by
  obtain ⟨c, k, i, f, a, cell, h1, h2, h3, h4, h5, h6, h7, h8, h9, h10, h11⟩ := h
  obtain ⟨k', hi', he⟩ := State.fieldFound?_setVm hW.alike h2
  exact ⟨c, k', i, f, a, cell, by rw [hW.alike.findClass]; exact h1, hi', h3, by rw [he]; exact h4, by rw [hq a h10]; exact h5, h6, h7, h8, by rw [he]; exact h9, h10, h11⟩
theorem a_LSt.lays {base : Nat} {C n d : String} {U : State} {args : Array Value} (h : a_LSt base C n d U) : (Cond.laysStatic C n d).before args U = true := by
  obtain ⟨c, k, i, f, a, cell, h1, h2, h3, h4, h5, h6, h7, h8, h9, h10, h11⟩ := h
  exact Cond.laysStatic_of h1 h2 h3 h4 h5 h6 h7 h8 h9
theorem a_LSt.isref {base : Nat} {C n d : String} {U : State} {args : Array Value} (h : a_LSt base C n d U) : (Cond.isRef (.static C n d)).before args U = true := by
  obtain ⟨c, k, i, f, a, cell, h1, h2, h3, h4, h5, h6, h7, h8, h9, h10, v, h11, h12⟩ := h
  have hv := Term.static_eval (s := U) (args := args) (first := U) (o := none) (idx := []) h2 h3 h4 h5 h6 h11
  rcases h12 with rfl | ⟨t, rfl⟩ <;> simp [Cond.before, Cond.holds, Cond.value, hv]
theorem a_Nw_face {w : Cond} {s U : State} (hW : s.WarmedH U.vm) (hk : w.keepsFace = true) (ht : w.onTables = true) (h : va_Nw w s) : va_Nw w U := va_tabs ht (rfl : (s.setVm U.vm).vm = U.vm) (Cond.before_shiftedFace (State.Shifted.of_warmed hW) w hk h)
def a_Th (base : Nat) (U : State) : Prop := a_LSt base "java/lang/Throwable" "UNASSIGNED_STACK" "[Ljava/lang/StackTraceElement;" U ∧ a_LSt base "java/lang/Throwable" "SUPPRESSED_SENTINEL" "Ljava/util/List;" U ∧ ∀ w ∈ lw_tbl, w.keepsFace = true → w.onTables = true → va_Nw w U
def a_Cx (base : Nat) (cs : Nat → Nat) (D : va_G) (cA : Nat → ClassId) (h : aH) (U : State) : Prop := va_K D aCl (a_tys cA) U ∧ (∀ w ∈ lw_tbl, a_isN w = true → va_Nw w U) ∧ a_Tb base cs U ∧ a_Sx base cs U h ∧ (∃ adV, a_Ss base cs adV U) ∧ a_Th base U
theorem a_Nw_warm {w : Cond} {s U : State} (hW : s.WarmedH U.vm) (hn : a_isN w = true) (h : va_Nw w s) : va_Nw w U := by
  cases w with
  | methodLinkNest a i x b => exact va_Nw.warmM hW h
  | fieldLinkNest a i b n d h2 => exact va_Nw.warmF hW h
  | _ => cases hn
theorem a_Cx.go {base : Nat} {cs : Nat → Nat} {D : va_G} {cA : Nat → ClassId} {h h2 : aH} {s U : State} (C : a_Cx base cs D cA h s) (hW : s.WarmedH U.vm) (hq : ∀ q, q < base → U.heap[q]? = s.heap[q]?) (hsc : h2.2.2.1 aSc = h.2.2.1 aSc ∧ h2.2.2.2.1 aSc = h.2.2.2.1 aSc) : a_Cx base cs D cA h2 U := by
  obtain ⟨K, N, T, S, ⟨adV, X1, X2, X3, X4⟩, H1, H2, H3⟩ := C
  have hk : ∀ a : Nat, a < s.heap.size → ¬ (fun q => base ≤ q) a → U.heap[a]? = s.heap[a]? := fun a _ ha => hq a (Nat.not_le.mp ha)
  refine ⟨va_K.moved hW.alike K, fun w hw hn => a_Nw_warm hW hn (N w hw hn), ⟨(T.1.moved hW.alike).kept hk, (T.2.moved hW.alike).kept hk⟩, ?_, ⟨adV, (X1.moved hW.alike).kept hk, fun i q hi => (X2 i q hi).warm hW, (X3.moved hW.alike).kept hk, (X4.moved hW.alike).kept hk⟩, H1.go hW hq, H2.go hW hq, fun w hw hk ht => a_Nw_face hW hk ht (H3 w hw hk ht)⟩
  intro hz
  rw [hsc.1] at hz
  obtain ⟨hX, hb⟩ := S hz
  rw [hsc.1, hsc.2]
  exact ⟨(hX.moved hW.alike).kept (hq _ hb), hb⟩
def a_Pc (base : Nat) (cs : Nat → Nat) (D : va_G) (cA : Nat → ClassId) (h : aH) (as : List Value) : Array Value → State → Prop := fun v U => v = (as.map (a_cv base cs)).toArray ∧ a_Sim base cs D cA h U.heap ∧ a_Cx base cs D cA h U
def a_Qc (base : Nat) (cs : Nat → Nat) (D : va_G) (cA : Nat → ClassId) (v : Option Value) (h' : aH) : Array Value → State → Outcome → State → Prop := fun _ st oc t => oc = .returned (v.map (a_cv base cs)) ∧ a_Sim base cs D cA h' t.heap ∧ ∀ q, q < base → t.heap[q]? = st.heap[q]?
theorem a_blind (base : Nat) (cs : Nat → Nat) (D : va_G) (cA : Nat → ClassId) (h : aH) (as : List Value) : FrameBlind (a_Pc base cs D cA h as) := by
  intro a U g mk q
  obtain ⟨q1, q2, q3⟩ := q
  exact ⟨q1, q2, q3.go (U := U.calling g mk a) (State.WarmedH.refl U) (fun _ _ => rfl) ⟨rfl, rfl⟩⟩
section AG5
variable {base : Nat} {cs : Nat → Nat} {D : va_G} {cA : Nat → ClassId} {my : aMe} {c0 : Nat × Nat} {p : Program} {l : Launch} {e : Env} {R : Room} {s : State} {m : MethodId} {args : Array Value} {below : List Frame} {meth : Method} {c : Code} {Q : State → Prop} {pc pc' : Nat} {ls st ls' st' : List Value} {h h' : aH} {d : Nat}
/-- behind a call -/
theorem a_cont {H : Heap} {locs : List Loc} {cells slots mc ms : Nat} {lsA : Array Slot} {v : Option Value} {a : Array Value} {st0 : List Value} (hr : va_Run p l e R s m args below meth c H locs cells slots mc ms (F0 m pc lsA st0) (st.map (a_cv base cs)) (a_Qc base cs D cA v h' a) (fun q => base ≤ q))
    (M : a_M base cs D cA s my c0 ls h H locs cells slots lsA) (hg : a_ge h h') (hmc : h.2.1.1 + mc = h'.2.1.1 ∧ h.2.1.2 + ms = h'.2.1.2)
    (k : a_G base cs D cA my c0 p l e R s m args below meth c Q (pc + 3) ls (v.toList ++ st) h') : W p l e R s m args below meth c H locs cells slots Q (F0 m pc lsA st0) := by
  intro T hT X
  obtain ⟨v', st₀, t, T', L, h0, X', hL, e1, e2, ⟨hv, hS, hold⟩, go⟩ := hr T hT X
  have hv2 : v' = v.map (a_cv base cs) := by cases hv; rfl
  subst hv2
  have hM := M.2.2.2.2.1
  have M2 : a_M base cs D cA s my c0 ls h' T'.heap (locs ++ L) (cells + mc) (slots + ms) lsA := by
    refine ⟨by rw [e1]; exact hS, ⟨M.2.1.1, fun q hq => ?_⟩, fun x hx => ?_, M.2.2.2.1, ⟨by omega, by omega⟩, ?_⟩
    · rw [e1, hold q hq, h0]
      exact M.2.1.2 q hq
    · rcases List.mem_append.mp hx with h1 | h1
      · exact M.2.2.1 x h1
      · exact hL x h1
    · unfold a_Sx
      rw [hg.2.2.2.2.1, hg.2.2.2.2.2]
      exact M.2.2.2.2.2
  obtain ⟨t2, a1, b1⟩ := k T'.heap (locs ++ L) (cells + mc) (slots + ms) lsA M2 T' rfl X'
  refine ⟨t2, go t2 ?_, b1⟩
  have ev : ((v.toList ++ st).map (a_cv base cs)) = (v.map (a_cv base cs)).toList ++ st.map (a_cv base cs) := by cases v <;> simp
  rw [ev] at a1
  exact a1
end AG5
