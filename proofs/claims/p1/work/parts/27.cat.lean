/-! CATCHING: one handler, its class's entry cold or warm -/
theorem a_caught {p : Program} {l : Launch} {e : Env} {R : Room} {s : State} {m : MethodId} {args : Array Value} {below : List Frame} {meth : Method} {c : Code} {T : State} {locs : List Loc} {cells slots : Nat} (X : Stand p l e R s m args below meth c T locs cells slots) {g : JFrame} (hg : g.method = m) {own name : String} (hown : s.vm.findClass own = some m.cls) {x : ExceptionTableEntry} (ht : c.exceptionTable.toList = [x]) (hx : covers x g.pc = true) (h0 : x.catchType ≠ 0)
    (hlink : (Cond.classLink own x.catchType name).before args s = true) (hcast : (Cond.castable name name).before args s = true) {a : Addr} {cell : Cell} (hcell : T.heap[a]? = some cell) (hobj : cell.vm.isStatics = false) (hcls : s.vm.findClass name = some cell.cls) :
    ∃ vm', Stand p l e R s m args below meth c (T.setVm vm') locs cells slots ∧ ∀ target, Steps p.tables e below ((T.setVm vm').setTop { g with pc := x.handlerPc, stack := [.ref a] }) target → Steps p.tables e below ((T.setTop g).pushFrame (.throwing a)) target := by
  subst hg
  obtain ⟨c1, c2, q1, q2, hself⟩ := Cond.castable_spec hcast
  cases hcls.symm.trans q1
  cases hcls.symm.trans q2
  obtain ⟨c3, q3, hcl⟩ := Cond.classLink_spec hown hlink e.platform (by rw [X.admits.platform])
  cases hcls.symm.trans q3
  obtain ⟨_, _, _, kt, hd, _, _, _, _, hkt, _, hopen⟩ := hcl.here
  have hal := X.warmed.alike
  have hW' := X.warmed.noted hd hopen (State.rightAt_cls hcl)
  have hcl₀ := X.warmed.classLinks hcl
  generalize hv : T.vm.noted g.method.cls x.catchType (.cls cell.cls) = vm' at hW'
  have hal2 : T.vm.Alike vm' := by rw [← hv]; exact (Vm.Alike.refl T.vm).noted _ _ _
  obtain ⟨kt1, hkt1, -⟩ := hal.2.2 _ _ hkt
  obtain ⟨kt2, hkt2, -⟩ := hal2.2.2 _ _ hkt1
  have hfit : vm'.assignable cell.cls cell.cls = true := by rw [hal2.assignable, hal.assignable]; exact hself
  refine ⟨vm', X.noted hW', fun target hrest => ?_⟩
  have hfind0 : ∀ (u : State), u.vm = T.vm → u.heap = T.heap → ∀ (Q : Handler → Pre) (E : CtlPost) (d : Bool) (acts : List Action), wp (findHandler g a) Q E e d acts u ↔ Q (.found x.handlerPc) d acts (u.setVm vm') := by
    intro u hu1 hu2 Q E d acts
    have hmeth : u.vm.method? g.method = some meth := by rw [hu1]; exact X.method'
    rw [W.findHandler_eq (meth := meth) (code := c) hmeth X.code, ht]
    have hx2 := hx
    simp only [covers] at hx2
    have hl2 : u.vm.ClassLinks e.platform g.method.cls x.catchType cell.cls := by rw [hu1]; exact hcl₀
    obtain ⟨r1, r2⟩ := (resolveClass_links e.toSetting hl2).op (op := VmOp.resolveClass g.method.cls x.catchType) rfl
    have hv2 : u.vm.noted g.method.cls x.catchType (.cls cell.cls) = vm' := by rw [hu1]; exact hv
    have hcell2 : u.heap[a]? = some cell := by rw [hu2]; exact hcell
    subst hv2
    simp [findHandler.go, hx2, h0, r1, r2, hcell2, VmData.ne_statics_of hobj, hkt2, hfit, VmOp.dirties, VmOp.acts]
  have hfind := hfind0 ((T.setTop g).pushFrame (.throwing a)) rfl rfl
  obtain ⟨hgo, hw⟩ := X.here.throwing a
  refine Steps.head hgo hw ?_
  have hstep : (stepThrowing e ((T.setTop g).pushFrame (.throwing a)) a (.java g :: T.frames.tail)).Is ((((T.setTop g).pushFrame (.throwing a)).setVm vm').setFrames (.java { g with pc := x.handlerPc, stack := [.ref a] } :: T.frames.tail)) [] := by
    simp only [stepThrowing, searchFrame, vmDo]
    generalize hr : Sem.go _ e false [] ((T.setTop g).pushFrame (.throwing a)) = res
    obtain ⟨as, rfl, ha⟩ := Sem.eq_ok_of hr (a := Handler.found x.handlerPc) (s' := ((T.setTop g).pushFrame (.throwing a)).setVm vm') (acts' := []) (by simp [hfind])
    exact ⟨rfl, ha⟩
  rw [stepThread_throwing (frames_entered X.here.top _), hstep.1]
  obtain ⟨g₀, hg⟩ := Option.isSome_iff_exists.mp X.here.top
  obtain ⟨r, hr⟩ := State.topJava?_eq_some.mp hg
  have hr' : (T.setVm vm').frames = .java g₀ :: r := hr
  rw [State.setTop_of_frames _ hr'] at hrest
  rw [hr, State.setTop_of_frames _ hr]
  have ef : ((((T.setFrames (.java g :: r)).pushFrame (.throwing a)).setVm vm').setFrames (.java { g with pc := x.handlerPc, stack := [.ref a] } :: r)) = (T.setVm vm').setFrames (.java { g with pc := x.handlerPc, stack := [.ref a] } :: r) := by
    show ((((T.setVm vm').setFrames (.java g :: r)).setFrames (.throwing a :: (T.setFrames (.java g :: r)).frames)).setFrames _) = _
    rw [State.setFrames_setFrames, State.setFrames_setFrames]
  rw [List.tail_cons, ef]
  exact hrest
/-- where a method that doesn't catch throws -/
theorem a_run_thr : ∀ (n d y pc : Nat) (ls st : List Value) (h : aH) (ci : Nat) (h' : aH) (my : aMe), aMeL[y]? = some my → my.2.2.2.2.2.2.2 = false → a_run n d y pc ls st h = some (.inr ci, h') → ∃ (pc' j : Nat) (w : List Nat) (h2 : aH), aCode y pc' = some (.new j, ci, 1, w) ∧ h' = a_mk ci 6 h2 := by
  intro n
  induction n with
  | zero => intro d y pc ls st h ci h' my _ _ hs; cases hs
  | succ n ih =>
    intro d y pc ls st h ci h' my hmy hcat hs
    rw [a_run_succ] at hs
    split at hs
    · cases hs
    · rename_i ai hai
      split at hs
      · exact ih _ _ _ _ _ _ _ _ my hmy hcat hs
      · rename_i r hst
        split at hs
        · cases hs
          rcases a_step_ret hst with ⟨-, x, -, hr⟩ | ⟨-, -, hr⟩ | ⟨j, hi, hb, -, hr⟩ | ⟨j, -, hct, -⟩
          · cases hr
          · cases hr
          · obtain ⟨i, a, b, w⟩ := ai
            dsimp only at hi hb hr
            subst hi
            subst hb
            cases hr
            exact ⟨_, _, _, h, hai, rfl⟩
          · unfold a_ctch at hct
            rw [hmy] at hct
            dsimp only at hct
            rw [hcat] at hct
            cases hct
        · cases hs
      · cases hs
/-- the contract of a method of ours that throws -/
theorem a_metX {n : Nat} {l : Launch} (hfl : l.stackTraces = false) (hR : a_RunG l n) {d z : Nat} {as : List Value} {g h' : aH} {ci : Nat} {mz : aMe} (hz : aMeL[z]? = some mz) (hc : mz.2.2.2.2.2.2.2 = false) (hok : a_ok mz as g = true) (hrun : a_run n d z 0 (a_loc mz as) [] g = some (.inr ci, h')) (hg : g.1 < aSc)
    (base : Nat) (cs : Nat → Nat) (D : va_G) (cA : Nat → ClassId) :
    MetFree l mz.1 (headSpec (Cond.code mz.1 mz.2.1 mz.2.2.1 mz.2.2.2.1 :: lw_good) (a_rm d (h'.2.1.1 - g.2.1.1) (h'.2.1.2 - g.2.1.2))) (a_Pc base cs D cA g as) (fun _ _ _ _ _ => True) (a_Qx base cs D cA h' (base + (h'.1 - 1)) (h'.2.1.1 - g.2.1.1) (h'.2.1.2 - g.2.1.2)) := by
  have hge := a_ge_run _ _ _ _ _ _ _ _ hrun hg
  have hmk := (a_mz hz).1
  have hok2 := hok
  unfold a_ok at hok2
  simp only [Bool.and_eq_true, decide_eq_true_eq, List.all_eq_true] at hok2
  refine MetFree.of_bodyS (code := mz.2.1) (maxLocals := mz.2.2.1) (ret := mz.2.2.2.1) hmk ?_ ?_
  · intro args s m h hn
    obtain ⟨meth, c, h1, h2, h3, h4, h5, h6, -, -⟩ := Cond.code_spec hn (atoms_spec (ws := Cond.code mz.1 mz.2.1 mz.2.2.1 mz.2.2.2.1 :: lw_good) h _ List.mem_cons_self)
    exact ⟨meth, c, h1, h2, h3, h4, h5, h6⟩
  intro p e s m args below meth c s₁ B hml hv _
  obtain ⟨rfl, hS, hC⟩ := hv
  have hts := atoms_spec (ws := Cond.code mz.1 mz.2.1 mz.2.2.1 mz.2.2.2.1 :: lw_good) B.pre
  have F : a_Fx mz p (a_rm d (h'.2.1.1 - g.2.1.1) (h'.2.1.2 - g.2.1.2)) s m ((as.map (a_cv base cs)).toArray) meth c d :=
    ⟨B.exec, B.bytes, hml, findClass_of_methodNamed B.named, fun w hw => hts w (List.mem_cons_of_mem _ hw), B.returns, B.notSynchronized, fun hi => by rw [(name_of_methodNamed B.named B.method).1]; exact hi, Nat.le_refl _, Nat.le_refl _, hC.2.1⟩
  have hb : base ≤ s.heap.size := by rw [hS.1]; exact Nat.le_add_right _ _
  have M0 : a_M base cs D cA s mz g.2.1 (a_loc mz as) g s.heap [] 0 0 ((lg_sl (as.map (a_cv base cs)) ++ List.replicate (mz.2.2.1 - (lg_sl (as.map (a_cv base cs))).length) Slot.unset).toArray) :=
    ⟨hS, ⟨hb, fun _ _ => rfl⟩, fun x hx => (by cases hx), a_ls_entry (fun v hv => hok2.1.2 v hv) hok2.1.1.2, ⟨rfl, rfl⟩, hC.2.2.2.1⟩
  have hex := B.noHandlers (hts _ List.mem_cons_self)
  have hc1 : h'.2.1.1 ≤ g.2.1.1 + (h'.2.1.1 - g.2.1.1) := by have := hge.2.2.1; omega
  have hc2 : h'.2.1.2 ≤ g.2.1.2 + (h'.2.1.2 - g.2.1.2) := by have := hge.2.2.2.1; omega
  have key := hR d z 0 (a_loc mz as) [] g (.inr ci, h') mz hrun hz base cs D cA g.2.1 p e (a_rm d (h'.2.1.1 - g.2.1.1) (h'.2.1.2 - g.2.1.2)) s m ((as.map (a_cv base cs)).toArray) below meth c
    (fun t => ∃ o, t.status = .running ∧ Ended t below o ∧ a_Qx base cs D cA h' (base + (h'.1 - 1)) (h'.2.1.1 - g.2.1.1) (h'.2.1.2 - g.2.1.2) ((as.map (a_cv base cs)).toArray) s o t) F hC hg hc1 hc2
    (fun _ _ _ hx => by cases hx) (fun _ _ hx => by cases hx) (fun hx => by rw [hc] at hx; cases hx)
    (fun pc' ls' h2 j ci' w hai hl hC2 hr hd => by
      cases hr
      exact a_thr (c0 := g.2.1) hfl F hC2 hz hai hd hl hc1 hc2 hex) s.heap [] 0 0 _ M0
  have hh0 : s₁.heap = s.heap := by rw [B.state]; rfl
  obtain ⟨t, a1, o, b1, b2, b3⟩ := key s₁ hh0 (Stand.of_body B)
  rw [lg_entry_eq]
  exact ⟨t, o, a1, b1, b2, b3⟩
