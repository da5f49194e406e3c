/-! A THROW OF THE CLASS'S OWN: the sites, and what stands behind one -/
def a_dkn (b : ByteArray) (pc : Nat) (i : Instr) (n : Nat) : Bool := match decode b pc with
  | .ok (j, k) => decide (j = i ∧ k = n)
  | .error _ => false
theorem a_dkn_ok {b : ByteArray} {pc n : Nat} {i : Instr} (h : a_dkn b pc i n = true) : decode b pc = .ok (i, n) := by
  unfold a_dkn at h
  split at h
  · rename_i j k hd
    simp only [decide_eq_true_eq] at h
    rw [hd, h.1, h.2]
  · cases h
def a_lds (b : ByteArray) (cls : String) (pc : Nat) : Bool := match decode b pc with
  | .ok (.ldc k, 2) => aSrf.any (fun q => decide (q.1 = cls ∧ q.2.1 = k))
  | _ => false
theorem a_lds_ok {b : ByteArray} {cls : String} {pc : Nat} (h : a_lds b cls pc = true) : ∃ (k i : Nat) (tx : String), decode b pc = .ok (.ldc k, 2) ∧ aSrf[i]? = some (cls, k, tx) := by
  unfold a_lds at h
  split at h
  · rename_i k hd
    obtain ⟨q, hq, h2⟩ := List.any_eq_true.mp h
    simp only [decide_eq_true_eq] at h2
    obtain ⟨i, hi⟩ := List.mem_iff_getElem?.mp hq
    obtain ⟨q1, q2, q3⟩ := q
    obtain ⟨rfl, rfl⟩ := h2
    exact ⟨_, i, q3, hd, hi⟩
  · cases h
def a_th1 (my : aMe) (pc j ci : Nat) : Bool := decide (my.1.cls = "TypedTermReader") && (decide (ci = 12 ∧ j = 76) || decide (ci = 13 ∧ j = 133)) && a_dkn my.2.1 (pc + 3) .dup 1 && a_lds my.2.1 "TypedTermReader" (pc + 4) && a_dkn my.2.1 (pc + 6) (.invokespecial (if ci = 12 then 80 else 137)) 3 && a_dkn my.2.1 (pc + 9) .athrow 1
def a_thL (my : aMe) : Nat → List (Option aI) → Bool
  | _, [] => true
  | pc, none :: l => a_thL my (pc + 1) l
  | pc, some ai :: l => (match ai.1 with
    | .new j => decide (ai.2.2.1 = 0) || a_th1 my pc j ai.2.1
    | _ => true) && a_thL my (pc + 1) l
set_option maxRecDepth 100000 in
theorem a_thA : (aMeL.zip aMs).all (fun q => a_thL q.1 0 q.2) = true := by decide +kernel
theorem a_thL_at {my : aMe} : ∀ (l : List (Option aI)) (p0 k j ci : Nat) (w : List Nat), a_thL my p0 l = true → l[k]? = some (some (.new j, ci, 1, w)) → a_th1 my (p0 + k) j ci = true
  | [], _, k, _, _, _, _, h => by simp at h
  | none :: l, p0, 0, _, _, _, _, h => by cases h
  | none :: l, p0, k + 1, j, ci, w, hc, h => by
    have := a_thL_at l (p0 + 1) k j ci w hc h
    rwa [show p0 + 1 + k = p0 + (k + 1) by omega] at this
  | some x :: l, p0, 0, j, ci, w, hc, h => by
    cases h
    unfold a_thL at hc
    rw [Bool.and_eq_true] at hc
    simpa using hc.1
  | some x :: l, p0, k + 1, j, ci, w, hc, h => by
    unfold a_thL at hc
    rw [Bool.and_eq_true] at hc
    have := a_thL_at l (p0 + 1) k j ci w hc.2 h
    rwa [show p0 + 1 + k = p0 + (k + 1) by omega] at this
theorem a_th_at {y pc j ci : Nat} {w : List Nat} {my : aMe} (hm : aMeL[y]? = some my) (hc : aCode y pc = some (.new j, ci, 1, w)) : a_th1 my pc j ci = true := by
  unfold aCode at hc
  cases hl : aMs[y]? with
  | none => rw [hl] at hc; cases hc
  | some l =>
    rw [hl] at hc
    dsimp only at hc
    cases hp : l[pc]? with
    | none => rw [hp] at hc; cases hc
    | some o =>
      rw [hp] at hc
      dsimp only at hc
      subst hc
      have hz : (my, l) ∈ aMeL.zip aMs := by
        refine List.mem_of_getElem? (i := y) ?_
        rw [List.getElem?_zip_eq_some]
        exact ⟨hm, hl⟩
      have := a_thL_at l 0 pc j ci w (List.all_eq_true.mp a_thA _ hz) hp
      rwa [Nat.zero_add] at this
def a_xcls (ci : Nat) : String := if ci = 12 then "java/lang/IllegalArgumentException" else "java/lang/IndexOutOfBoundsException"
set_option maxRecDepth 100000 in
theorem a_xw : ∀ ci : Nat, (ci = 12 ∨ ci = 13) → Cond.classLink "TypedTermReader" (if ci = 12 then 76 else 133) (a_xcls ci) ∈ lw_good ∧ Cond.instantiable (a_xcls ci) 6 ∈ lw_good ∧ Cond.initialized (a_xcls ci) ∈ lw_good := by
  intro ci h
  rcases h with rfl | rfl
  · exact ⟨lw_good_in (by decide +kernel) rfl, lw_good_in (by decide +kernel) rfl, lw_good_in (by decide +kernel) rfl⟩
  · exact ⟨lw_good_in (by decide +kernel) rfl, lw_good_in (by decide +kernel) rfl, lw_good_in (by decide +kernel) rfl⟩
theorem a_xcl_at : ∀ ci : Nat, (ci = 12 ∨ ci = 13) → ∃ T, aCl[ci]? = some (a_xcls ci, T, 0) := by
  intro ci h
  rcases h with rfl | rfl
  · exact ⟨_, rfl⟩
  · exact ⟨_, rfl⟩
/-- the end of a method that throws -/
def a_Qx (base : Nat) (cs : Nat → Nat) (D : va_G) (cA : Nat → ClassId) (h' : aH) (xa mc ms : Nat) : Array Value → State → Outcome → State → Prop := fun _ st o t => o = .threw xa ∧ st.WarmedH t.vm ∧ (∃ L, (∀ q ∈ L, base ≤ q.base) ∧ st.sameButNew ({ t with vm := st.vm } : State) L mc ms) ∧ a_Sim base cs D cA h' t.heap ∧ ∀ q, q < base → t.heap[q]? = st.heap[q]?
section AG7
variable {base : Nat} {cs : Nat → Nat} {D : va_G} {cA : Nat → ClassId} {my : aMe} {c0 : Nat × Nat} {p : Program} {l : Launch} {e : Env} {R : Room} {s : State} {m : MethodId} {args : Array Value} {below : List Frame} {meth : Method} {c : Code} {pc : Nat} {ls : List Value} {h : aH} {d : Nat}
/-- what was there is there as it was, where nothing is free -/
theorem a_same_nil {s U : State} {k n : Nat} (hs : s.sameButNew U [] k n) {a : Nat} (ha : a < s.heap.size) : U.heap[a]? = s.heap[a]? := by
  obtain ⟨-, -, -, -, -, h6⟩ := hs
  have hc : s.heap[a]? = some s.heap[a] := by simp [ha]
  obtain ⟨c', x1, x2, x3, x4⟩ := h6 a _ hc
  rw [x1, hc]
  have hsl : c'.slots = (s.heap[a]).slots := by
    apply Array.ext
    · exact x3
    · intro i h1 h2
      have := x4 i (by simp)
      rw [Array.getElem?_eq_getElem h1, Array.getElem?_eq_getElem h2] at this
      exact Option.some.inj this
  rw [x2, hsl]
theorem a_thr {j ci y : Nat} {w : List Nat} (hfl : l.stackTraces = false) (F : a_Fx my p R s m args meth c d) (hC : a_Cx base cs D cA h s) (hmy : aMeL[y]? = some my) (hai : aCode y pc = some (.new j, ci, 1, w)) (hd : decode my.2.1 pc = .ok (.new j, 3)) (hl : h.1 + 1 < aSc) (hR1 : h.2.1.1 + 1 ≤ c0.1 + R.cells) (hR2 : h.2.1.2 + 6 ≤ c0.2 + R.slots) (hex : c.exceptionTable.isEmpty = true) :
    a_G base cs D cA my c0 p l e R s m args below meth c (fun t => ∃ o, t.status = .running ∧ Ended t below o ∧ a_Qx base cs D cA (a_mk ci 6 h) (base + h.1) ((a_mk ci 6 h).2.1.1 - c0.1) ((a_mk ci 6 h).2.1.2 - c0.2) args s o t) pc ls [] h := by
  intro H locs cells slots lsA M T hT X
  have hth := a_th_at hmy hai
  unfold a_th1 at hth
  simp only [Bool.and_eq_true, Bool.or_eq_true, decide_eq_true_eq] at hth
  obtain ⟨⟨⟨⟨⟨t1, t2⟩, t3⟩, t4⟩, t5⟩, t6⟩ := hth
  have hci : ci = 12 ∨ ci = 13 := t2.imp (fun q => q.1) (fun q => q.1)
  have hj : j = if ci = 12 then 76 else 133 := by rcases t2 with ⟨rfl, rfl⟩ | ⟨rfl, rfl⟩ <;> rfl
  obtain ⟨kl, il, tx, hdl, hil⟩ := a_lds_ok t4
  have hM := M.2.2.2.2.1
  subst hT
  have X' := a_rebase X (by omega) (by omega)
  generalize hs' : ({ s with heap := T.heap, slotsUsed := T.slotsUsed } : State) = s' at X'
  have hvm : s'.vm = s.vm := by rw [← hs']
  have hhp : s'.heap = T.heap := by rw [← hs']
  have hWs : s.WarmedH s'.vm := by rw [hvm]; exact State.WarmedH.refl s
  have hts : ∀ w ∈ lw_good, w.before args s' = true := fun w hw => pay_in F.2.2.2.2.1 lw_good_ok w hw args s' hWs
  have hC' : a_Cx base cs D cA h s' := hC.go hWs (fun q hq => by rw [hhp]; exact M.2.1.2 q hq) ⟨rfl, rfl⟩
  have hown : s'.vm.findClass "TypedTermReader" = some m.cls := by rw [hvm, ← t1]; exact F.2.2.2.1
  obtain ⟨w1, w2, w3⟩ := a_xw ci hci
  rw [← hj] at w1
  obtain ⟨vm₁, cX, kX, hfX, hkX, -, hsz, X₁, st1⟩ := X'.newCold F.1 hown (hts _ w1) (hts _ w2) (hts _ w3) (g := F0 m pc lsA []) rfl (by rw [F.2.1]; exact hd) (by show 0 + 1 ≤ R.cells - cells; omega) (by show 0 + 6 ≤ R.slots - slots; omega)
  generalize hT1 : (T.setVm vm₁).pushCell { cls := cX, slots := kX.instanceTypes.map defaultValue, vm := .none } = T1 at X₁ st1
  have hcellA : T1.heap[T.heap.size]? = some (freshCell cX kX) := by rw [← hT1]; exact State.heap_pushCell_size _ _
  obtain ⟨adV, -, hSr, -⟩ := hC'.2.2.2.2.1
  have htr : e.platform.stackTraces = false := by rw [X.admits.platform]; exact hfl
  have hxa : ∀ w ∈ Bundle.ownAtoms "TypedTermReader" (if ci = 12 then 80 else 137) (a_xcls ci) a_xn, w.before args s' = true := by
    rcases hci with rfl | rfl
    · exact a_xat a_xok1 hts hC'.2.2.2.2.2
    · exact a_xat a_xok2 hts hC'.2.2.2.2.2
  have hfit : Bundle.fit (a_xcls ci) = true := by rcases hci with rfl | rfl <;> decide +kernel
  have hF := F.2.2.2.2.2.2.2.2
  have hW : W p l e { R with cells := R.cells - cells, slots := R.slots - slots } s' m args below meth c T1.heap [] (0 + 1) (0 + 6) (fun t => t.status = .running ∧ Ended t below (.threw T.heap.size) ∧ s'.WarmedH t.vm ∧ s'.sameButNew ({ t with vm := s'.vm } : State) [] 1 6 ∧ ∃ ce : Cell, t.heap[T.heap.size]? = some ce ∧ s'.vm.findClass (a_xcls ci) = some ce.cls ∧ ce.vm = .none) (F0 m (pc + 3) lsA [.ref T.heap.size]) := by
    refine lv_dup F.1 F.2.1 (a_dkn_ok t3) rfl (va_ldcS (pc := pc + 3 + 1) F.1 F.2.1 hown (hSr _ _ hil) hdl ?_)
    intro T2 hT2 X2
    obtain ⟨U, hsteps, hrun, hend, hW2, hsame, ce, hce, K⟩ := X2.ctorThrowS F.1 htr (own := "TypedTermReader") (cls := a_xcls ci) (names := a_xn) hown hfit (by decide +kernel) hxa (fun y hy => by cases hy) hfX hkX (a := T.heap.size) (by rw [hT2]; exact hcellA) (by rw [hhp]; exact Nat.le_refl _)
      (msg := .ref (cs (il + 2))) rfl (g := F0 m (pc + 3 + 1 + 2) lsA [.ref (cs (il + 2)), .ref T.heap.size, .ref T.heap.size]) rfl (by rw [F.2.2.1]; exact M.2.2.2.1.1) rfl rfl (rest := []) rfl
      (by rw [F.2.1]; exact a_dkn_ok t5) (by rw [F.2.1]; exact a_dkn_ok t6) (covers_of_empty hex _) (by show 2 + 3 < R.frames; omega) (by show _ ≤ R.locals; have : (F0 m (pc + 3 + 1 + 2) lsA [.ref (cs (il + 2)), .ref T.heap.size, .ref T.heap.size]).monitorRoom = 0 := rfl; rw [this]; simp [a_xn, Value.category]; omega) F.2.2.2.2.2.2.1
    exact ⟨U, hsteps, hrun, hend, hW2, hsame, ce, hce, K.cls, K.vm⟩
  obtain ⟨t, a1, b1, b2, b3, b4, ce, b5, b6, b7⟩ := hW T1 rfl X₁
  have hTsz : T.heap.size = base + h.1 := M.1.1
  have hold : ∀ q, q < T.heap.size → t.heap[q]? = T.heap[q]? := fun q hq => by
    have := a_same_nil b4 (a := q) (by rw [hhp]; exact hq)
    rw [hhp] at this
    exact this
  have b4' := b4
  obtain ⟨g1, g2, g3, g4, g5, g6⟩ := b4
  have hz : t.heap.size = T.heap.size + 1 := by
    have q1 : T.heap.size < t.heap.size := (Array.getElem?_eq_some_iff.mp b5).1
    have q2 : t.heap.size ≤ s'.heap.size + 1 := g3
    rw [hhp] at q2
    omega
  have e1 : (a_mk ci 6 h).2.1.1 - c0.1 = cells + 1 := by show h.2.1.1 + 1 - c0.1 = _; omega
  have e2 : (a_mk ci 6 h).2.1.2 - c0.2 = slots + 6 := by show h.2.1.2 + 6 - c0.2 = _; omega
  refine ⟨t, st1 _ a1, .threw T.heap.size, b1, b2, by rw [hTsz], State.WarmedH.trans hWs b3, ⟨locs ++ [], fun q hq => M.2.2.1 q (by simpa using hq), ?_⟩, ?_, fun q hq => ?_⟩
  · rw [e1, e2]
    refine X.same.trans ⟨?_, ?_, ?_, ?_, ?_, ?_⟩
    · have hx := X.same.1
      have g1' : ({ t with vm := s.vm } : State) = { s'.setFrames t.frames with heap := t.heap, slotsUsed := t.slotsUsed } := by rw [← hvm]; exact g1
      refine g1'.trans ?_
      have e3 : (T.setVm s.vm).setFrames t.frames = ({ s.setFrames t.frames with heap := T.heap, slotsUsed := T.slotsUsed } : State) := by
        refine (congrArg (·.setFrames t.frames) hx).trans ?_
        show ({ (s.setFrames (T.setVm s.vm).frames).setFrames t.frames with heap := T.heap, slotsUsed := T.slotsUsed } : State) = _
        rw [State.setFrames_setFrames]
      show _ = ({ (T.setVm s.vm).setFrames t.frames with heap := t.heap, slotsUsed := t.slotsUsed } : State)
      rw [e3, ← hs']
      rfl
    · rw [hhp] at g2; exact g2
    · rw [hhp] at g3; exact g3
    · have hu : s'.slotsUsed = T.slotsUsed := by rw [← hs']
      rw [hhp, hu] at g4; exact g4
    · rw [hhp] at g5; exact g5
    · rw [hhp] at g6; exact g6
  · refine M.1.mk hl hz hold ?_
    have ek : ((a_mk ci 6 h).2.2.1 h.1) = (ci, 6) := if_pos rfl
    rw [a_E_obj (c := ci) (by rw [ek]) (by omega), ← hTsz]
    obtain ⟨T9, hT9⟩ := a_xcl_at ci hci
    refine ⟨_, hT9, ce, b5, ?_, ?_, fun k hk => absurd hk (Nat.not_lt_zero k)⟩
    · have hk1 := (hC'.1.1 ci _ hT9).2.1
      exact Option.some.inj (b6.symm.trans hk1)
    · rw [b7]
  · rw [hold q (by omega)]
    exact M.2.1.2 q hq
end AG7
