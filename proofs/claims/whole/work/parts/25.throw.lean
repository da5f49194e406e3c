/-! THE CLASS'S OWN THROW. The walk is set anew at the state before 'new', so that what stood in the heap is known to stand behind it -/
theorem a_rebase {p : Program} {l : Launch} {e : Env} {R : Room} {s : State} {m : MethodId} {args : Array Value} {below : List Frame} {meth : Method} {c : Code} {T : State} {locs : List Loc} {cells slots : Nat} (X : Stand p l e R s m args below meth c T locs cells slots) (hc : cells ≤ R.cells) (hs : slots ≤ R.slots) :
    Stand p l e { R with cells := R.cells - cells, slots := R.slots - slots } { s with heap := T.heap, slotsUsed := T.slotsUsed } m args below meth c T [] 0 0 := by
  have hz := X.heapSize
  have hu := X.used
  have hb := X.book
  have hroom := X.room
  have e0 : T.heap.toList.drop T.heap.size = [] := List.drop_eq_nil_of_le (by rw [Array.length_toList]; exact Nat.le_refl _)
  refine ⟨X.admits, X.cas, X.clock, X.frames, ?_, X.hears, X.method, X.code, X.here, X.tail, X.warmed, X.limits, X.bytes, ?_⟩
  · simp only [State.hasRoom, Bool.and_eq_true, decide_eq_true_eq] at hroom ⊢
    obtain ⟨⟨⟨⟨a1, a2⟩, a3⟩, a4⟩, a5⟩ := hroom
    refine ⟨⟨⟨⟨a1, a2⟩, ?_⟩, ?_⟩, hb⟩
    · show T.heap.size + (R.cells - cells) ≤ _
      omega
    · show T.slotsUsed + (R.slots - slots) ≤ _
      omega
  · refine ⟨?_, Nat.le_refl _, Nat.le_refl _, ?_, ?_, fun a c0 h => ⟨c0, h, rfl, rfl, fun _ _ => rfl⟩⟩
    · have h1 := X.same.1
      exact h1
    · show T.slotsUsed = T.slotsUsed + ((T.heap.toList.drop T.heap.size).map (·.slots.size)).sum
      rw [e0]; rfl
    · show ((T.heap.toList.drop T.heap.size).map (·.slots.size)).sum ≤ 0
      rw [e0]; exact Nat.le_refl _
def a_xn : List String := ["java/lang/RuntimeException", "java/lang/Exception"]
def a_xok (ic : Nat) (cls : String) : Bool := (Bundle.ownAtoms "TypedTermReader" ic cls a_xn).all (fun w => (decide (w ∈ lw_tbl) && (goodWord w || (w.keepsFace && w.onTables))) || decide (w = .isRef (.static "java/lang/Throwable" "UNASSIGNED_STACK" "[Ljava/lang/StackTraceElement;")) || decide (w = .isRef (.static "java/lang/Throwable" "SUPPRESSED_SENTINEL" "Ljava/util/List;")) || decide (w = .laysStatic "java/lang/Throwable" "UNASSIGNED_STACK" "[Ljava/lang/StackTraceElement;") || decide (w = .laysStatic "java/lang/Throwable" "SUPPRESSED_SENTINEL" "Ljava/util/List;"))
set_option maxRecDepth 100000 in
theorem a_xok1 : a_xok 80 "java/lang/IllegalArgumentException" = true := by decide +kernel
set_option maxRecDepth 100000 in
theorem a_xok2 : a_xok 137 "java/lang/IndexOutOfBoundsException" = true := by decide +kernel
theorem a_xat {base ic : Nat} {cls : String} {U : State} {args : Array Value} (hx : a_xok ic cls = true) (hts : ∀ w ∈ lw_good, w.before args U = true) (hT : a_Th base U) : ∀ w ∈ Bundle.ownAtoms "TypedTermReader" ic cls a_xn, w.before args U = true := by
  intro w hw
  have h1 := List.all_eq_true.mp hx w hw
  simp only [Bool.or_eq_true, Bool.and_eq_true, decide_eq_true_eq] at h1
  rcases h1 with (((h1 | h1) | h1) | h1) | h1
  · rcases h1.2 with h2 | h2
    · exact hts w (lw_good_in h1.1 h2)
    · exact va_Nw.use h2.2 (hT.2.2 w h1.1 h2.1 h2.2)
  · rw [h1]; exact hT.1.isref
  · rw [h1]; exact hT.2.1.isref
  · rw [h1]; exact hT.1.lays
  · rw [h1]; exact hT.2.1.lays
