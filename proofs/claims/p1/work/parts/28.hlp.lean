/-! A CALL THAT THROWS, CAUGHT IN ITS CALLER -/
section AG8
variable {base : Nat} {cs : Nat → Nat} {D : va_G} {cA : Nat → ClassId} {my mz : aMe} {c0 : Nat × Nat} {p : Program} {l : Launch} {e : Env} {R : Room} {s : State} {m : MethodId} {args : Array Value} {below : List Frame} {meth : Method} {c : Code} {Q : State → Prop} {pc n d z i b : Nat} {ls as st : List Value} {h h' : aH} {ci : Nat}
set_option maxHeartbeats 1000000 in
theorem s_catch {x : ExceptionTableEntry} (hfl : l.stackTraces = false) (hR : a_RunG l n) (F : a_Fx my p R s m args meth c (d + 1)) (hC : a_Cx base cs D cA h s) (A : a_CA my mz i b z) (hb : ¬ b % 2 = 1) (hst : mz.2.2.2.2.1 = false) (hw : Cond.instanceMethod mz.1 ∈ lw_good) (hsel : Cond.selects mz.1.cls mz.1 mz.1 ∈ lw_good) (hd : decode my.2.1 pc = .ok (.invokevirtual i, 3)) (hok : a_ok mz as h = true) (hrun : a_run n d z 0 (a_loc mz as) [] h = some (.inr ci, h')) (hsum : (st.map fun v => v.category).sum ≤ 8) (hg : h.1 < aSc)
    (hR1 : h'.2.1.1 ≤ c0.1 + R.cells) (hR2 : h'.2.1.2 ≤ c0.2 + R.slots) (hci : ci = 12 ∨ ci = 13) (ht : c.exceptionTable.toList = [x]) (hx : covers x pc = true) (h0 : x.catchType ≠ 0) (hxl : Cond.classLink my.1.cls x.catchType (a_xcls ci) ∈ lw_good) (k : a_G base cs D cA my c0 p l e R s m args below meth c Q x.handlerPc ls [.ref (h'.1 - 1)] h') : a_G base cs D cA my c0 p l e R s m args below meth c Q pc ls (as.reverse ++ st) h := by
  intro H locs cells slots lsA M T hT X
  have hge : a_ge h h' := a_ge_run _ _ _ _ _ _ _ _ hrun hg
  obtain ⟨m1, m2, m3, m4, m5⟩ := a_mz A.1
  rw [if_neg (by rw [hst]; decide)] at m3
  obtain ⟨m6, m7, m8⟩ := m5.resolve_left (by rw [hst]; decide)
  obtain ⟨pcx, jx, wx, h2x, haix, hmkx⟩ := a_run_thr _ _ _ _ _ _ _ _ _ mz A.1 A.2.2.1 hrun
  have hok2 := hok
  unfold a_ok at hok2
  rw [hst] at hok2
  simp only [Bool.and_eq_true, decide_eq_true_eq, List.all_eq_true, Bool.false_or] at hok2
  have hMt := a_metX hfl hR A.1 A.2.2.1 hok hrun hg base cs D cA
  have hF := F.2.2.2.2.2.2.2.2
  have hMM := M.2.2.2.2.1
  cases as with
  | nil => exact (Bool.false_ne_true hok2.2).elim
  | cons w tl =>
    cases w with
    | ref q =>
      have hq : q < h.1 ∧ (h.2.2.1 q).1 = mz.2.2.2.2.2.2.1 := by simpa using hok2.2
      have hpcU := a_pcU (as := .ref q :: tl) hC M
      have es : (((Value.ref q :: tl).reverse ++ st).map (a_cv base cs)) = (tl.map (a_cv base cs)).reverse ++ .ref (a_ad base cs q) :: st.map (a_cv base cs) := by
        rw [List.map_append, List.map_reverse]
        simp [a_cv]
      rw [es]
      have hlen : (tl.map (a_cv base cs)).length = mz.2.2.2.2.2.1 - 1 := by
        have := hok2.1.1.1
        rw [List.length_cons] at this
        rw [List.length_map]; omega
      have hA := M.1.2.2 q hq.1
      rw [a_E_obj hq.2 (by omega)] at hA
      have hrc := va_recv hC.1 (a_P1 hA) (a_cl_at _ m7) (q0 := 0) rfl
      rw [m8] at hrc
      have ea : a_ad base cs q = base + q := a_ad_lt (Nat.lt_trans hq.1 hg)
      obtain ⟨cellB, hcB, hoB, hclB⟩ : ∃ cell : Cell, H[a_ad base cs q]? = some cell ∧ cell.vm.isStatics = false ∧ s.vm.findClass mz.1.cls = some cell.cls := by rw [ea]; exact hrc
      have hts := F.2.2.2.2.1
      obtain ⟨mk, methM, hnamed, hmethM, hstM, habM⟩ := Cond.instanceMethod_spec (hts _ hw)
      obtain ⟨methM', cM, hmethM', hcM, -, hlM, -, -, -, hsigM⟩ := Cond.code_spec hnamed (hts _ (a_mz_code A))
      cases hmethM.symm.trans hmethM'
      obtain ⟨c2, r2, mm2, q1, q2, q3, q4, kP, hkP, hkPi⟩ := Cond.selects_spec (hts _ hsel)
      cases hclB.symm.trans q1
      cases (State.methodFound?_of_named hnamed m2).symm.trans q2
      cases hnamed.symm.trans q3
      have hselP : selectMethod e.platform s.vm cellB.cls mk = .method mk := by rw [Launch.admits_selectMethod X.admits]; exact q4
      have hlenS : (tl.map (a_cv base cs)).length = methM.sig.parameters.length := by
        rw [hlen]
        have := m3
        rw [hsigM] at this
        exact (Option.some.inj this).symm
      obtain ⟨vm₁, X₁, hstep₁⟩ := X.invokevirtual F.1 F.2.2.2.1 (hts _ (a_lnk0 A hb)) hnamed hmethM hstM hkP hkPi m2 (a := a_ad base cs q) (cell := cellB) (by rw [hT]; exact hcB)
        (fun z h => by rw [h] at hoB; cases hoB) hselP hmethM habM hkP hkPi (g := F0 m pc lsA ((tl.map (a_cv base cs)).reverse ++ .ref (a_ad base cs q) :: st.map (a_cv base cs))) rfl (argsL := tl.map (a_cv base cs)) (rest := st.map (a_cv base cs)) hlenS rfl (by rw [F.2.1]; exact hd)
      have hdc : decode c.code (F0 m pc lsA (st.map (a_cv base cs))).pc = .ok (.invokevirtual i, 3) := by rw [F.2.1]; exact hd
      have hn1 : (T.setVm vm₁).methodNamed? mz.1 = some mk := X₁.named hnamed
      have hW1 : s.WarmedH (T.setVm vm₁).vm := X₁.warmed
      have hp1 := pay_in hts lw_good_ok
      obtain ⟨methY, cY, hmY, hcY, -, hlY, -, -, -, -⟩ := Cond.code_spec hn1 (hp1 _ (a_mz_code A) args (T.setVm vm₁) hW1)
      obtain ⟨kY, hkY, -⟩ := className_of_methodNamed hn1
      have hinitY : kY.init = .initialized := Cond.initialized_spec (findClass_of_methodNamed hn1) hkY (hp1 _ A.2.2.2.2 args (T.setVm vm₁) hW1)
      have hge1 := hge.2.2.1
      have hge2 := hge.2.2.2.1
      have happ : (headSpec (Cond.code mz.1 mz.2.1 mz.2.2.1 mz.2.2.2.1 :: lw_good) (a_rm d (h'.2.1.1 - h.2.1.1) (h'.2.1.2 - h.2.1.2))).appliesLoose mz.1 e.platform ((T.setVm vm₁).calling (F0 m pc lsA (st.map (a_cv base cs))) mk ((Value.ref (a_ad base cs q) :: tl.map (a_cv base cs)).toArray)) = true := by
        refine Spec.appliesLoose_calling (g := F0 m pc lsA (st.map (a_cv base cs))) X₁.here hdc hn1 hkY hinitY (X₁.room_calling (g := F0 m pc lsA (st.map (a_cv base cs))) (R' := a_rm d (h'.2.1.1 - h.2.1.1) (h'.2.1.2 - h.2.1.2)) (by rw [F.2.2.1]; exact M.2.2.2.1.1) hmY hcY ?_ ?_ ?_ ?_) ?_
        · show d + 16 + 1 ≤ _; omega
        · have e2 : (F0 m pc lsA (st.map (a_cv base cs))).monitorRoom = 0 := rfl
          have e3 : (((F0 m pc lsA (st.map (a_cv base cs))).stack).map fun v => v.category).sum ≤ 8 := by
            show ((st.map (a_cv base cs)).map fun v => v.category).sum ≤ 8
            rw [a_sum_cv]; exact hsum
          rw [hlY, e2]
          show _ + (d * 64 + 1000) ≤ _
          omega
        · show cells + (h'.2.1.1 - h.2.1.1) ≤ _; omega
        · show slots + (h'.2.1.2 - h.2.1.2) ≤ _; omega
        · refine atoms_intro fun w hw => ?_
          exact pay_in hts (a_good_ws A) w hw _ _ hW1
      obtain ⟨mid, hmid⟩ := X₁.here.above
      have hfr : ((T.setVm vm₁).setTop (F0 m pc lsA (st.map (a_cv base cs)))).frames = (.java (F0 m pc lsA (st.map (a_cv base cs))) :: mid) ++ below := by rw [State.frames_setTop' _ X₁.here.top, hmid]; rfl
      have hPp : a_Pc base cs D cA h (.ref q :: tl) ((Value.ref (a_ad base cs q) :: tl.map (a_cv base cs)).toArray) (T.setVm vm₁) := hpcU (T.setVm vm₁) hT hW1
      obtain ⟨o, s₂, hsteps, -, hend, hqx⟩ := Steps.callFree hMt p X.admits X.cas X.clock (acts := []) hfr happ (a_blind base cs D cA h _ _ _ _ _ hPp) trivial
      have hq' : a_Qx base cs D cA h' (base + (h'.1 - 1)) (h'.2.1.1 - h.2.1.1) (h'.2.1.2 - h.2.1.2) ((Value.ref (a_ad base cs q) :: tl.map (a_cv base cs)).toArray) ((T.setVm vm₁).calling (F0 m pc lsA (st.map (a_cv base cs))) mk ((Value.ref (a_ad base cs q) :: tl.map (a_cv base cs)).toArray)) o s₂ := hqx
      obtain ⟨rfl, hW2, ⟨L, hL, hsame⟩, hS2, hold⟩ := hq'
      rw [State.frames_setTop' _ X₁.here.top, X₁.tail] at hend
      obtain ⟨T', X', hW3, hsm, ht'⟩ := X₁.outOfThrown rfl hend hW2 hsame
      have hheap : s₂.heap = T'.heap := by rw [ht']; rfl
      have hsz : h'.1 - 1 < h'.1 := by rw [hmkx]; show h2x.1 + 1 - 1 < h2x.1 + 1; omega
      have hAx := hS2.2.2 (h'.1 - 1) hsz
      have ekx : h'.2.2.1 (h'.1 - 1) = (ci, 6) := by
        rw [hmkx]
        show a_kup h2x.2.2.1 h2x.1 (ci, 6) (h2x.1 + 1 - 1) = _
        rw [Nat.add_sub_cancel]
        exact if_pos rfl
      rw [a_E_obj (c := ci) (by rw [ekx]) (by omega)] at hAx
      obtain ⟨T9, hT9⟩ := a_xcl_at ci hci
      have hrx := va_recv hC.1 (a_P1 hAx) hT9 (q0 := 0) rfl
      obtain ⟨cellX, hcX, hoX, hclX⟩ := hrx
      have hcast : (Cond.castable (a_xcls ci) (a_xcls ci)).before args s = true := by
        refine va_Nw.use rfl (hC.2.2.2.2.2.2.2 _ ?_ rfl rfl)
        rcases hci with rfl | rfl <;> decide +kernel
      obtain ⟨vm', X'', hstep₂⟩ := a_caught X' (g := F0 m pc lsA (st.map (a_cv base cs))) rfl F.2.2.2.1 ht hx h0 (hts _ hxl) hcast (a := base + (h'.1 - 1)) (by rw [← hheap]; exact hcX) hoX hclX
      have M2 : a_M base cs D cA s my c0 ls h' (T'.setVm vm').heap (locs ++ L) (cells + (h'.2.1.1 - h.2.1.1)) (slots + (h'.2.1.2 - h.2.1.2)) lsA := by
        refine ⟨by show a_Sim base cs D cA h' T'.heap; rw [← hheap]; exact hS2, ⟨M.2.1.1, fun y hy => ?_⟩, fun y hy => ?_, M.2.2.2.1, ⟨by omega, by omega⟩, ?_⟩
        · show T'.heap[y]? = _
          rw [← hheap, hold y hy]
          show T.heap[y]? = _
          rw [hT]
          exact M.2.1.2 y hy
        · rcases List.mem_append.mp hy with h1 | h1
          · exact M.2.2.1 y h1
          · exact hL y h1
        · unfold a_Sx
          rw [hge.2.2.2.2.1, hge.2.2.2.2.2]
          exact M.2.2.2.2.2
      obtain ⟨t, a1, b1⟩ := k _ _ _ _ _ M2 (T'.setVm vm') rfl X''
      refine ⟨t, ?_, b1⟩
      have hlt : h'.1 - 1 < aSc := Nat.lt_of_lt_of_le hsz (Nat.le_of_lt hge.2.1)
      have ea2 : a_ad base cs (h'.1 - 1) = base + (h'.1 - 1) := a_ad_lt hlt
      refine hstep₁ _ fun acts => ?_
      rw [doInvoke_state]
      refine hsteps.trans ?_
      rw [ht']
      refine hstep₂ _ ?_
      have a2 : Steps p.tables e below ((T'.setVm vm').setTop (F0 m x.handlerPc lsA [.ref (a_ad base cs (h'.1 - 1))])) t := a1
      rw [ea2] at a2
      exact a2
    | _ => exact (Bool.false_ne_true hok2.2).elim
end AG8
