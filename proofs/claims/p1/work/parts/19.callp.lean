/-! THE THREE CALLS -/
theorem a_sum_cv (base : Nat) (cs : Nat → Nat) (l : List Value) : ((l.map (a_cv base cs)).map fun v => v.category).sum = (l.map fun v => v.category).sum := by
  rw [List.map_map]
  congr 1
  exact List.map_congr_left (fun v _ => a_cv_cat base cs v)
section AG6
variable {base : Nat} {cs : Nat → Nat} {D : va_G} {cA : Nat → ClassId} {my mz : aMe} {c0 : Nat × Nat} {p : Program} {l : Launch} {e : Env} {R : Room} {s : State} {m : MethodId} {args : Array Value} {below : List Frame} {meth : Method} {c : Code} {Q : State → Prop} {pc n d z i b : Nat} {ls as st : List Value} {h h' : aH} {v : Option Value}
/-- what a call of ours rests on -/
def a_CA (my mz : aMe) (i b z : Nat) : Prop := aMeL[z]? = some mz ∧ 1 ≤ z ∧ mz.2.2.2.2.2.2.2 = false ∧ (a_lnk my.1.cls i mz.1 b ∈ lw_tbl ∧ (goodWord (a_lnk my.1.cls i mz.1 b) = true ∨ a_isN (a_lnk my.1.cls i mz.1 b) = true)) ∧ Cond.initialized mz.1.cls ∈ lw_good
theorem a_mz {y : Nat} (hz : aMeL[y]? = some mz) : plainName mz.1.cls = true ∧ (mz.1.cls ≠ "java/lang/invoke/MethodHandle" ∧ mz.1.cls ≠ "java/lang/invoke/VarHandle") ∧ (parseMethodDescriptor mz.1.desc).map (fun d => d.parameters.length) = some (if mz.2.2.2.2.1 = true then mz.2.2.2.2.2.1 else mz.2.2.2.2.2.1 - 1) ∧ mz.2.2.1 ≤ 40 ∧ (mz.2.2.2.2.1 = true ∨ (1 ≤ mz.2.2.2.2.2.1 ∧ mz.2.2.2.2.2.2.1 < 12 ∧ (a_cn mz.2.2.2.2.2.2.1).1 = mz.1.cls)) := by
  have hl : aMeL.length = 208 := by decide +kernel
  have hmk := a_mokA y (by rw [← hl]; exact (List.getElem?_eq_some_iff.mp hz).1)
  unfold a_mok at hmk
  rw [hz] at hmk
  simp only [Bool.and_eq_true, decide_eq_true_eq, Bool.or_eq_true] at hmk
  exact ⟨hmk.1.1.1.1, hmk.1.1.1.2, hmk.1.1.2, hmk.1.2, hmk.2.imp id (fun q => ⟨q.1.1, q.1.2, q.2⟩)⟩
theorem a_mz_code (A : a_CA my mz i b z) : Cond.code mz.1 mz.2.1 mz.2.2.1 mz.2.2.2.1 ∈ lw_good := by
  have h := a_code_in (a_plain_me A.1 A.2.1 A.2.2.1)
  unfold a_cw at h
  rw [A.1] at h
  exact h
theorem a_good_ws (A : a_CA my mz i b z) : GoodIn lw_good (Cond.code mz.1 mz.2.1 mz.2.2.1 mz.2.2.2.1 :: lw_good) := by
  intro w hw
  rcases List.mem_cons.mp hw with rfl | hw
  · exact lw_good_ok _ (a_mz_code A)
  · exact lw_good_ok _ hw
theorem a_pcU {H : Heap} {locs : List Loc} {cells slots : Nat} {lsA : Array Slot} (hC : a_Cx base cs D cA h s) (M : a_M base cs D cA s my c0 ls h H locs cells slots lsA) : ∀ U : State, U.heap = H → s.WarmedH U.vm → a_Pc base cs D cA h as (as.map (a_cv base cs)).toArray U :=
  fun U hU hW => ⟨rfl, by rw [hU]; exact M.1, hC.go hW (fun q hq => by rw [hU]; exact M.2.1.2 q hq) ⟨rfl, rfl⟩⟩
/-- link words: plain or of the nest -/
theorem a_lnk0 (A : a_CA my mz i b z) (hb : ¬ b % 2 = 1) : Cond.methodLink my.1.cls i mz.1 ∈ lw_good := by
  have h1 := A.2.2.2.1
  unfold a_lnk at h1
  rw [if_neg hb] at h1
  refine lw_good_in h1.1 ?_
  rcases h1.2 with h2 | h2
  · exact h2
  · cases h2
theorem a_lnk1 (A : a_CA my mz i b z) (hb : b % 2 = 1) : Cond.methodLinkNest my.1.cls i mz.1 "TypedTermReader" ∈ lw_tbl := by
  have h1 := A.2.2.2.1.1
  unfold a_lnk at h1
  rw [if_pos hb] at h1
  exact h1
theorem s_callS (hR : a_RunS l n) (F : a_Fx my p R s m args meth c (d + 1)) (hC : a_Cx base cs D cA h s) (A : a_CA my mz i b z) (hst : mz.2.2.2.2.1 = true) (hw : Cond.static mz.1 ∈ lw_good) (hd : decode my.2.1 pc = .ok (.invokestatic i, 3)) (hok : a_ok mz as h = true) (hrun : a_run n d z 0 (a_loc mz as) [] h = some (.inl v, h')) (hsum : (st.map fun v => v.category).sum ≤ 8) (hg : h.1 < aSc)
    (hR1 : h'.2.1.1 ≤ c0.1 + R.cells) (hR2 : h'.2.1.2 ≤ c0.2 + R.slots) (k : a_G base cs D cA my c0 p l e R s m args below meth c Q (pc + 3) ls (v.toList ++ st) h') : a_G base cs D cA my c0 p l e R s m args below meth c Q pc ls (as.reverse ++ st) h := by
  intro H locs cells slots lsA M
  have hge : a_ge h h' := a_ge_run _ _ _ _ _ _ _ _ hrun hg
  obtain ⟨m1, m2, m3, m4, m5⟩ := a_mz A.1
  rw [if_pos hst] at m3
  have hok2 := hok
  unfold a_ok at hok2
  simp only [Bool.and_eq_true, decide_eq_true_eq, List.all_eq_true] at hok2
  have hMt := a_met hR A.1 A.2.1 A.2.2.1 hok hrun hg base cs D cA
  have hF := F.2.2.2.2.2.2.2.2
  have hMM := M.2.2.2.2.1
  have hfr : (a_rm d (h'.2.1.1 - h.2.1.1) (h'.2.1.2 - h.2.1.2)).frames + 1 ≤ R.frames ∧ 8 + (mz.2.2.1 + 11) + (a_rm d (h'.2.1.1 - h.2.1.1) (h'.2.1.2 - h.2.1.2)).locals ≤ R.locals := ⟨by show d + 16 + 1 ≤ _; omega, by show 8 + (mz.2.2.1 + 11) + (d * 64 + 1000) ≤ _; omega⟩
  have hpre : PreS s H (a_Pc base cs D cA h as) (as.map (a_cv base cs)) := ⟨a_blind base cs D cA h as, a_pcU hC M⟩
  have es : ((as.reverse ++ st).map (a_cv base cs)) = (as.map (a_cv base cs)).reverse ++ st.map (a_cv base cs) := by rw [List.map_append, List.map_reverse]
  rw [es]
  have hcs : cells + (h'.2.1.1 - h.2.1.1) ≤ R.cells ∧ slots + (h'.2.1.2 - h.2.1.2) ≤ R.slots := by
    have := hge.2.2.1; have := hge.2.2.2.1; omega
  have hsm : 2 * (F0 m pc lsA ((as.map (a_cv base cs)).reverse ++ st.map (a_cv base cs))).monitorRoom + ((st.map (a_cv base cs)).map fun v => v.category).sum ≤ 8 := lv_room (by rw [a_sum_cv]; exact hsum)
  have S : CallFix p m c my.2.1 my.2.2.1 s args lw_good my.1.cls := ⟨F.1, F.2.1, F.2.2.1, F.2.2.2.1, F.2.2.2.2.1⟩
  have hlen : (as.map (a_cv base cs)).length = mz.2.2.2.2.2.1 := by rw [List.length_map]; exact hok2.1.1.1
  by_cases hb : b % 2 = 1
  · have hN := hF.2.2 _ (a_lnk1 A hb) rfl
    exact a_cont (va_runSN S hMt ⟨va_cnB mz.2.2.2.2.2.1 F.2.2.2.2.1 (a_good_ws A) rfl rfl rfl hN (F.2.2.2.2.1 _ A.2.2.2.2) ⟨m2.1, m2.2, m3⟩ hfr, F.2.2.2.2.1 _ hw, trivial⟩ hpre rfl hlen M.2.2.2.1.1 rfl hsm hd hcs) M hge ⟨by have := hge.2.2.1; omega, by have := hge.2.2.2.1; omega⟩ k
  · exact a_cont (va_runS S hMt ⟨callB_of mz.2.2.2.2.2.1 F.2.2.2.2.1 (a_good_ws A) rfl rfl rfl (F.2.2.2.2.1 _ A.2.2.2.2) (F.2.2.2.2.1 _ (a_lnk0 A hb)) ⟨m2.1, m2.2, m3⟩ hfr, F.2.2.2.2.1 _ hw⟩ hpre rfl hlen M.2.2.2.1.1 rfl hsm hd hcs) M hge ⟨by have := hge.2.2.1; omega, by have := hge.2.2.2.1; omega⟩ k
theorem s_callVI (hR : a_RunS l n) (F : a_Fx my p R s m args meth c (d + 1)) (hC : a_Cx base cs D cA h s) (A : a_CA my mz i b z) (hst : mz.2.2.2.2.1 = false) (hw : Cond.instanceMethod mz.1 ∈ lw_good) (hd : (decode my.2.1 pc = .ok (.invokevirtual i, 3) ∧ Cond.selects mz.1.cls mz.1 mz.1 ∈ lw_good) ∨ (decode my.2.1 pc = .ok (.invokespecial i, 3) ∧ mz.1.name = "<init>" ∧ mz.2.2.2.1 = none)) (hok : a_ok mz as h = true) (hrun : a_run n d z 0 (a_loc mz as) [] h = some (.inl v, h')) (hsum : (st.map fun v => v.category).sum ≤ 8) (hg : h.1 < aSc)
    (hR1 : h'.2.1.1 ≤ c0.1 + R.cells) (hR2 : h'.2.1.2 ≤ c0.2 + R.slots) (k : a_G base cs D cA my c0 p l e R s m args below meth c Q (pc + 3) ls (v.toList ++ st) h') : a_G base cs D cA my c0 p l e R s m args below meth c Q pc ls (as.reverse ++ st) h := by
  intro H locs cells slots lsA M
  have hge : a_ge h h' := a_ge_run _ _ _ _ _ _ _ _ hrun hg
  obtain ⟨m1, m2, m3, m4, m5⟩ := a_mz A.1
  rw [if_neg (by rw [hst]; decide)] at m3
  obtain ⟨m6, m7, m8⟩ := m5.resolve_left (by rw [hst]; decide)
  have hok2 := hok
  unfold a_ok at hok2
  rw [hst] at hok2
  simp only [Bool.and_eq_true, decide_eq_true_eq, List.all_eq_true, Bool.false_or] at hok2
  have hMt := a_met hR A.1 A.2.1 A.2.2.1 hok hrun hg base cs D cA
  have hF := F.2.2.2.2.2.2.2.2
  have hMM := M.2.2.2.2.1
  cases as with
  | nil => exact (Bool.false_ne_true hok2.2).elim
  | cons w tl =>
    cases w with
    | ref q =>
      have hq : q < h.1 ∧ (h.2.2.1 q).1 = mz.2.2.2.2.2.2.1 := by simpa using hok2.2
      have hfr : (a_rm d (h'.2.1.1 - h.2.1.1) (h'.2.1.2 - h.2.1.2)).frames + 1 ≤ R.frames ∧ 8 + (mz.2.2.1 + 11) + (a_rm d (h'.2.1.1 - h.2.1.1) (h'.2.1.2 - h.2.1.2)).locals ≤ R.locals := ⟨by show d + 16 + 1 ≤ _; omega, by show 8 + (mz.2.2.1 + 11) + (d * 64 + 1000) ≤ _; omega⟩
      have hpcU := a_pcU (as := .ref q :: tl) hC M
      have es : (((Value.ref q :: tl).reverse ++ st).map (a_cv base cs)) = (tl.map (a_cv base cs)).reverse ++ .ref (a_ad base cs q) :: st.map (a_cv base cs) := by
        rw [List.map_append, List.map_reverse]
        simp [a_cv]
      rw [es]
      have hcs : cells + (h'.2.1.1 - h.2.1.1) ≤ R.cells ∧ slots + (h'.2.1.2 - h.2.1.2) ≤ R.slots := by
        have := hge.2.2.1; have := hge.2.2.2.1; omega
      have hsm : 2 * (F0 m pc lsA ((tl.map (a_cv base cs)).reverse ++ .ref (a_ad base cs q) :: st.map (a_cv base cs))).monitorRoom + ((st.map (a_cv base cs)).map fun v => v.category).sum ≤ 8 := lv_room (by rw [a_sum_cv]; exact hsum)
      have S : CallFix p m c my.2.1 my.2.2.1 s args lw_good my.1.cls := ⟨F.1, F.2.1, F.2.2.1, F.2.2.2.1, F.2.2.2.2.1⟩
      have hlen : (tl.map (a_cv base cs)).length = mz.2.2.2.2.2.1 - 1 := by
        have := hok2.1.1.1
        rw [List.length_cons] at this
        rw [List.length_map]; omega
      have hA := M.1.2.2 q hq.1
      rw [a_E_obj hq.2 (by omega)] at hA
      have hrc := va_recv hC.1 (a_P1 hA) (a_cl_at _ m7) (q0 := 0) rfl
      rw [m8] at hrc
      have ea : a_ad base cs q = base + q := a_ad_lt (Nat.lt_trans hq.1 hg)
      have hrc2 : ∃ cell : Cell, H[a_ad base cs q]? = some cell ∧ cell.vm.isStatics = false ∧ s.vm.findClass mz.1.cls = some cell.cls := by rw [ea]; exact hrc
      rcases hd with ⟨hd, hsel⟩ | ⟨hd, hni, hnr⟩
      · have hpre : PreV s H mz.1.cls (a_ad base cs q) (a_Pc base cs D cA h (.ref q :: tl)) (tl.map (a_cv base cs)) := ⟨a_blind base cs D cA h _, hrc2, hpcU⟩
        by_cases hb : b % 2 = 1
        · have hN := hF.2.2 _ (a_lnk1 A hb) rfl
          exact a_cont (va_runVN S hMt ⟨va_cnB (mz.2.2.2.2.2.1 - 1) F.2.2.2.2.1 (a_good_ws A) rfl rfl rfl hN (F.2.2.2.2.1 _ A.2.2.2.2) ⟨m2.1, m2.2, m3⟩ hfr, F.2.2.2.2.1 _ hw, F.2.2.2.2.1 _ hsel⟩ hpre rfl hlen M.2.2.2.1.1 rfl hsm hd hcs) M hge ⟨by have := hge.2.2.1; omega, by have := hge.2.2.2.1; omega⟩ k
        · exact a_cont (va_runV S hMt ⟨callB_of (mz.2.2.2.2.2.1 - 1) F.2.2.2.2.1 (a_good_ws A) rfl rfl rfl (F.2.2.2.2.1 _ A.2.2.2.2) (F.2.2.2.2.1 _ (a_lnk0 A hb)) ⟨m2.1, m2.2, m3⟩ hfr, F.2.2.2.2.1 _ hw, F.2.2.2.2.1 _ hsel⟩ hpre rfl hlen M.2.2.2.1.1 rfl hsm hd hcs) M hge ⟨by have := hge.2.2.1; omega, by have := hge.2.2.2.1; omega⟩ k
      · have hpre : PreS s H (a_Pc base cs D cA h (.ref q :: tl)) (.ref (a_ad base cs q) :: tl.map (a_cv base cs)) := ⟨a_blind base cs D cA h _, hpcU⟩
        rw [hnr] at hMt
        have hgw := a_good_ws A
        rw [hnr] at hgw
        by_cases hb : b % 2 = 1
        · have hN := hF.2.2 _ (a_lnk1 A hb) rfl
          exact a_cont (va_runIN S hMt ⟨va_cnB (mz.2.2.2.2.2.1 - 1) F.2.2.2.2.1 hgw rfl rfl rfl hN (F.2.2.2.2.1 _ A.2.2.2.2) ⟨m2.1, m2.2, m3⟩ hfr, hni, F.2.2.2.2.1 _ hw⟩ hpre rfl hlen M.2.2.2.1.1 rfl hsm hd hcs) M hge ⟨by have := hge.2.2.1; omega, by have := hge.2.2.2.1; omega⟩ k
        · exact a_cont (va_runI S hMt ⟨callB_of (mz.2.2.2.2.2.1 - 1) F.2.2.2.2.1 hgw rfl rfl rfl (F.2.2.2.2.1 _ A.2.2.2.2) (F.2.2.2.2.1 _ (a_lnk0 A hb)) ⟨m2.1, m2.2, m3⟩ hfr, hni, F.2.2.2.2.1 _ hw⟩ hpre rfl hlen M.2.2.2.1.1 rfl hsm hd hcs) M hge ⟨by have := hge.2.2.1; omega, by have := hge.2.2.2.1; omega⟩ k
    | _ => exact (Bool.false_ne_true hok2.2).elim
end AG6
