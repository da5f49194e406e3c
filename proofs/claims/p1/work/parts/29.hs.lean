/-! THE LAW'S FIVE HELPERS -/
def a_hd (y : Nat) : Nat × (Nat × Nat × Nat × Nat) × Nat := if y = 20 then (21, (0, 9, 12, 13), 12) else if y = 119 then (120, (0, 9, 12, 13), 12) else if y = 125 then (126, (0, 9, 12, 13), 12) else if y = 130 then (131, (0, 9, 12, 24), 13) else (134, (0, 10, 13, 24), 13)
def a_hcode (my : aMe) (hp : Nat) : Bool := (a_dkn my.2.1 hp (.astore_n 3) 1 && a_dkn my.2.1 (hp + 1) (.iconst 1) 1 && a_dkn my.2.1 (hp + 2) .ireturn 1 && decide (3 < my.2.2.1)) || (a_dkn my.2.1 hp (.astore 4) 2 && a_dkn my.2.1 (hp + 2) (.iconst 1) 1 && a_dkn my.2.1 (hp + 3) .ireturn 1 && decide (4 < my.2.2.1))
def a_hL (z e : Nat) : Nat → List (Option aI) → Bool
  | _, [] => true
  | pc, none :: l => a_hL z e (pc + 1) l
  | pc, some ai :: l => (match ai.1 with
    | .invokevirtual _ => decide (ai.2.1 = z ∧ pc < e ∧ ai.2.2.1 % 2 = 0)
    | .invokestatic _ => false
    | .invokespecial _ => false
    | _ => true) && a_hL z e (pc + 1) l
def a_hN (ci : Nat) (l : List (Option aI)) : Bool := l.all (fun o => match o with
  | some ai => (match ai.1 with
    | .new _ => decide (ai.2.2.1 = 0 ∨ ai.2.1 = ci)
    | _ => true)
  | none => true)
def a_hck (y : Nat) : Bool := match aMeL[y]?, aMs[y]?, aMs[(a_hd y).1]? with
  | some my, some l, some lz => decide (my.2.2.2.1 = some .int) && a_hL (a_hd y).1 (a_hd y).2.1.2.1 0 l && a_hcode my (a_hd y).2.1.2.2.1 && a_hN (a_hd y).2.2 lz && decide (my.1.cls = "TypedTermReaderLaw")
  | _, _, _ => false
def a_hys : List Nat := [20, 119, 125, 130, 133]
set_option maxRecDepth 100000 in
theorem a_hyA : (List.range 208).all (fun y => !a_ctch y || a_hys.contains y) = true := by decide +kernel
set_option maxRecDepth 100000 in
theorem a_hckA : a_hys.all a_hck = true := by decide +kernel
def a_cww (y : Nat) : Cond := match aMeL[y]? with
  | some m => .codeWith m.1 m.2.1 m.2.2.1 m.2.2.2.1 [(a_hd y).2.1]
  | none => .tt
set_option maxRecDepth 100000 in
theorem a_cwwA : ∀ y ∈ a_hys, a_cww y ∈ lw_tbl := by decide +kernel
theorem a_cwwG (y : Nat) : goodWord (a_cww y) = true := by unfold a_cww; split <;> rfl
set_option maxRecDepth 100000 in
theorem a_hxl1 : Cond.classLink "TypedTermReaderLaw" 13 "java/lang/IllegalArgumentException" ∈ lw_good := lw_good_in (by decide +kernel) rfl
set_option maxRecDepth 100000 in
theorem a_hxl2 : Cond.classLink "TypedTermReaderLaw" 24 "java/lang/IndexOutOfBoundsException" ∈ lw_good := lw_good_in (by decide +kernel) rfl
theorem a_hL_at {z e : Nat} : ∀ (l : List (Option aI)) (p0 k : Nat) (ai : aI), a_hL z e p0 l = true → l[k]? = some (some ai) → (match ai.1 with
    | .invokevirtual _ => decide (ai.2.1 = z ∧ p0 + k < e ∧ ai.2.2.1 % 2 = 0)
    | .invokestatic _ => false
    | .invokespecial _ => false
    | _ => true) = true
  | [], _, k, _, _, h => by simp at h
  | none :: l, p0, 0, _, _, h => by cases h
  | none :: l, p0, k + 1, ai, hc, h => by
    have := a_hL_at l (p0 + 1) k ai hc h
    rwa [show p0 + 1 + k = p0 + (k + 1) by omega] at this
  | some x :: l, p0, 0, ai, hc, h => by
    cases h
    unfold a_hL at hc
    rw [Bool.and_eq_true] at hc
    exact hc.1
  | some x :: l, p0, k + 1, ai, hc, h => by
    unfold a_hL at hc
    rw [Bool.and_eq_true] at hc
    have := a_hL_at l (p0 + 1) k ai hc.2 h
    rwa [show p0 + 1 + k = p0 + (k + 1) by omega] at this
/-- what a helper is -/
theorem a_helper {y : Nat} {my : aMe} (hm : aMeL[y]? = some my) (hc : my.2.2.2.2.2.2.2 = true) : my.2.2.2.1 = some .int ∧ my.1.cls = "TypedTermReaderLaw" ∧ a_hcode my (a_hd y).2.1.2.2.1 = true ∧ Cond.codeWith my.1 my.2.1 my.2.2.1 my.2.2.2.1 [(a_hd y).2.1] ∈ lw_good ∧
    (∀ (pc : Nat) (i : Instr) (z b j : Nat) (w : List Nat), aCode y pc = some (i, z, b, w) → (i = .invokevirtual j ∨ i = .invokestatic j ∨ i = .invokespecial j) → i = .invokevirtual j ∧ z = (a_hd y).1 ∧ pc < (a_hd y).2.1.2.1 ∧ b % 2 = 0) ∧ (∀ (pc j ci : Nat) (w : List Nat), aCode (a_hd y).1 pc = some (.new j, ci, 1, w) → ci = (a_hd y).2.2) ∧
    (a_hd y).2.1.1 = 0 ∧ Cond.classLink my.1.cls (a_hd y).2.1.2.2.2 (a_xcls (a_hd y).2.2) ∈ lw_good ∧ (a_hd y).2.1.2.2.2 ≠ 0 ∧ ((a_hd y).2.2 = 12 ∨ (a_hd y).2.2 = 13) := by
  have hl : aMeL.length = 208 := by decide +kernel
  have hy : y < 208 := by rw [← hl]; exact (List.getElem?_eq_some_iff.mp hm).1
  have hct : a_ctch y = true := by unfold a_ctch; rw [hm]; exact hc
  have h1 := List.all_eq_true.mp a_hyA y (List.mem_range.mpr hy)
  rw [hct] at h1
  have hin : y ∈ a_hys := by simpa using h1
  have h2 := List.all_eq_true.mp a_hckA y hin
  have h3 := a_cwwA y hin
  have h3' : Cond.codeWith my.1 my.2.1 my.2.2.1 my.2.2.2.1 [(a_hd y).2.1] ∈ lw_good := by
    have := lw_good_in h3 (a_cwwG y)
    unfold a_cww at this
    rw [hm] at this
    exact this
  unfold a_hck at h2
  rw [hm] at h2
  cases hl1 : aMs[y]? with
  | none => rw [hl1] at h2; cases h2
  | some l =>
  cases hl2 : aMs[(a_hd y).1]? with
  | none => rw [hl1, hl2] at h2; cases h2
  | some lz =>
  rw [hl1, hl2] at h2
  simp only [Bool.and_eq_true, decide_eq_true_eq] at h2
  obtain ⟨⟨⟨⟨k1, k2⟩, k3⟩, k4⟩, k5⟩ := h2
  refine ⟨k1, k5, k3, h3', fun pc i z b j w hai hi => ?_, fun pc j ci w hai => ?_, ?_⟩
  · unfold aCode at hai
    rw [hl1] at hai
    dsimp only at hai
    cases hp : l[pc]? with
    | none => rw [hp] at hai; cases hai
    | some o =>
      rw [hp] at hai
      dsimp only at hai
      subst hai
      have h4 := a_hL_at l 0 pc (i, z, b, w) k2 hp
      rcases hi with rfl | rfl | rfl
      · dsimp only at h4
        simp only [decide_eq_true_eq, Nat.zero_add] at h4
        exact ⟨rfl, h4⟩
      · cases h4
      · cases h4
  · unfold aCode at hai
    rw [hl2] at hai
    dsimp only at hai
    cases hp : lz[pc]? with
    | none => rw [hp] at hai; cases hai
    | some o =>
      rw [hp] at hai
      dsimp only at hai
      subst hai
      have h4 := List.all_eq_true.mp k4 _ (List.mem_of_getElem? hp)
      dsimp only at h4
      simp only [decide_eq_true_eq] at h4
      exact h4.resolve_left (by decide)
  · rw [k5]
    unfold a_hys at hin
    simp only [List.mem_cons, List.not_mem_nil, or_false] at hin
    rcases hin with rfl | rfl | rfl | rfl | rfl
    · exact ⟨rfl, a_hxl1, by decide, Or.inl rfl⟩
    · exact ⟨rfl, a_hxl1, by decide, Or.inl rfl⟩
    · exact ⟨rfl, a_hxl1, by decide, Or.inl rfl⟩
    · exact ⟨rfl, a_hxl2, by decide, Or.inr rfl⟩
    · exact ⟨rfl, a_hxl2, by decide, Or.inr rfl⟩
theorem a_tab1 {t : List ExceptionTableEntry} {q : Nat × Nat × Nat × Nat} (h : t.map (fun h => (h.startPc, h.endPc, h.handlerPc, h.catchType)) = [q]) : t = [⟨q.1, q.2.1, q.2.2.1, q.2.2.2⟩] := by
  cases t with
  | nil => cases h
  | cons x r =>
    cases r with
    | nil =>
      rw [List.map_cons, List.map_nil] at h
      cases h
      rfl
    | cons y r => rw [List.map_cons, List.map_cons] at h; cases h
set_option maxHeartbeats 1000000 in
theorem a_metH {n : Nat} {l : Launch} (hfl : l.stackTraces = false) (hR : ∀ k, k ≤ n → a_RunG l k) {d z : Nat} {as : List Value} {g h' : aH} {v : Option Value} {mz : aMe} (hz : aMeL[z]? = some mz) (hc : mz.2.2.2.2.2.2.2 = true) (hok : a_ok mz as g = true) (hrun : a_run n d z 0 (a_loc mz as) [] g = some (.inl v, h')) (hg : g.1 < aSc)
    (base : Nat) (cs : Nat → Nat) (D : va_G) (cA : Nat → ClassId) :
    Met l mz.1 (Cond.codeWith mz.1 mz.2.1 mz.2.2.1 mz.2.2.2.1 [(a_hd z).2.1] :: lw_good) (a_rm d (h'.2.1.1 - g.2.1.1) (h'.2.1.2 - g.2.1.2)) (a_Pc base cs D cA g as) (a_Qc base cs D cA v h') (h'.2.1.1 - g.2.1.1) (h'.2.1.2 - g.2.1.2) (fun q => base ≤ q) := by
  obtain ⟨e1, e2, e3, e4, e5, e6, e7, e8, e9, e10⟩ := a_helper hz hc
  have hge := a_ge_run _ _ _ _ _ _ _ _ hrun hg
  have hmk := (a_mz hz).1
  have hok2 := hok
  unfold a_ok at hok2
  simp only [Bool.and_eq_true, decide_eq_true_eq, List.all_eq_true] at hok2
  refine va_MetW (cc := mz.2.1) (maxL := mz.2.2.1) (ret := mz.2.2.2.1) (hh := [(a_hd z).2.1]) hmk rfl ?_
  intro p e s m args below meth c s₁ B hml hv
  obtain ⟨rfl, hS, hC⟩ := hv
  have hts := atoms_spec (ws := Cond.codeWith mz.1 mz.2.1 mz.2.2.1 mz.2.2.2.1 [(a_hd z).2.1] :: lw_good) B.pre
  have F : a_Fx mz p (a_rm d (h'.2.1.1 - g.2.1.1) (h'.2.1.2 - g.2.1.2)) s m ((as.map (a_cv base cs)).toArray) meth c d :=
    ⟨B.exec, B.bytes, hml, findClass_of_methodNamed B.named, fun w hw => hts w (List.mem_cons_of_mem _ hw), B.returns, B.notSynchronized, fun hi => by rw [(name_of_methodNamed B.named B.method).1]; exact hi, Nat.le_refl _, Nat.le_refl _, hC.2.1⟩
  rw [lg_entry_eq]
  have hb : base ≤ s.heap.size := by rw [hS.1]; exact Nat.le_add_right _ _
  have M0 : a_M base cs D cA s mz g.2.1 (a_loc mz as) g s.heap [] 0 0 ((lg_sl (as.map (a_cv base cs)) ++ List.replicate (mz.2.2.1 - (lg_sl (as.map (a_cv base cs))).length) Slot.unset).toArray) :=
    ⟨hS, ⟨hb, fun _ _ => rfl⟩, fun x hx => (by cases hx), a_ls_entry (fun v hv => hok2.1.2 v hv) hok2.1.1.2, ⟨rfl, rfl⟩, hC.2.2.2.1⟩
  have hc1 : h'.2.1.1 ≤ g.2.1.1 + (h'.2.1.1 - g.2.1.1) := by have := hge.2.2.1; omega
  have hc2 : h'.2.1.2 ≤ g.2.1.2 + (h'.2.1.2 - g.2.1.2) := by have := hge.2.2.2.1; omega
  have hE1 : ∀ (pc' : Nat) (ls' : List Value) (x : Int32), v = some (.int x) → decode mz.2.1 pc' = .ok (.ireturn, 1) → a_G base cs D cA mz g.2.1 p l e (a_rm d (h'.2.1.1 - g.2.1.1) (h'.2.1.2 - g.2.1.2)) s m ((as.map (a_cv base cs)).toArray) below meth c (MQ below (a_Qc base cs D cA v h') ((as.map (a_cv base cs)).toArray) s (h'.2.1.1 - g.2.1.1) (h'.2.1.2 - g.2.1.2) (fun q => base ≤ q)) pc' ls' [.int x] h' := by
    intro pc' ls' x hx hd H locs cells slots lsA M
    have e1' : cells = h'.2.1.1 - g.2.1.1 := by have := M.2.2.2.2.1.1; omega
    have e2' : slots = h'.2.1.2 - g.2.1.2 := by have := M.2.2.2.2.1.2; omega
    subst e1'
    subst e2'
    subst hx
    exact W.iret F.1 F.2.1 (by rw [F.2.2.2.2.2.1]; exact e1) (fun t ht _ => ⟨rfl, by rw [ht]; exact M.1, fun q hq => by rw [ht]; exact M.2.1.2 q hq⟩) M.2.2.1 hd F.2.2.2.2.2.2.1
  have hcw := hts _ List.mem_cons_self
  obtain ⟨m9, meth9, c9, n1, n2, n3, -, -, n4, -⟩ := Cond.codeWith_spec hcw
  cases B.named.symm.trans n1
  cases B.method.symm.trans n2
  cases (Stand.of_body B).code.symm.trans n3
  have htab := a_tab1 n4
  refine hR n (Nat.le_refl n) d z 0 (a_loc mz as) [] g (.inl v, h') mz hrun hz base cs D cA g.2.1 p e _ s m _ below meth c _ F hC hg hc1 hc2 (fun pc' ls' x hx hd _ => hE1 pc' ls' x (by cases hx; rfl) hd) (fun pc' ls' hx hd ht => by rw [e1] at ht; cases ht) ?_ (fun _ _ _ _ _ _ _ _ _ hr => by cases hr) s.heap [] 0 0 _ M0
  intro _ k pc' ls' st' h2 i j z2 b ci w hk hai hi hsz2 hC2 hb2 hsum hcall hr1 hd
  obtain ⟨rfl, rfl, hpc, hbe⟩ := e5 pc' i z2 b j w hai hi
  obtain ⟨d', rfl, ⟨mz2, hz2, hok3, hrun2⟩ | ⟨hzn, hj⟩⟩ := a_call_inv hcall
  · have hr1' : v = some (.int 1) := by cases hr1; rfl
    obtain ⟨my2, hmy2, hck⟩ := a_code_ok hai
    cases hz.symm.trans hmy2
    unfold a_ck1 at hck
    simp only [Bool.and_eq_true] at hck
    obtain ⟨⟨⟨hdk, hbr⟩, hfo⟩, hwo⟩ := hck
    have hP1 := a_allAI a_P1k a_P1kA hz hai
    unfold a_P1k at hP1
    unfold a_fok at hfo
    unfold a_need at hwo
    dsimp only at hP1 hfo hwo
    rw [hz2] at hfo hwo
    dsimp only at hfo hwo
    simp only [decide_eq_true_eq] at hP1 hfo
    have hcf : mz2.2.2.2.2.2.2.2 = false := by
      have hk := List.all_eq_true.mp a_catS _ (List.mem_of_getElem? hz2)
      rw [hfo.1] at hk
      cases hq : mz2.2.2.2.2.2.2.2 with
      | false => rfl
      | true => rw [hq] at hk; cases hk
    have A : a_CA mz mz2 j b (a_hd z).1 := ⟨hz2, hP1, hcf, a_ws_at hwo _ List.mem_cons_self, a_ws1 hwo (List.mem_cons_of_mem _ (List.mem_cons_of_mem _ (List.mem_cons_of_mem _ List.mem_cons_self))) rfl⟩
    obtain ⟨pcx, jx, wx, h2x, haix, -⟩ := a_run_thr _ _ _ _ _ _ _ _ _ mz2 hz2 hcf hrun2
    have hci := e6 pcx jx ci wx haix
    subst hci
    have hcov : covers (⟨(a_hd z).2.1.1, (a_hd z).2.1.2.1, (a_hd z).2.1.2.2.1, (a_hd z).2.1.2.2.2⟩ : ExceptionTableEntry) pc' = true := by
      simp only [covers, e7]
      simpa using hpc
    have hk2 := s_catch (st := st'.drop (b / 2)) (ls := ls') hfl (hR k (Nat.le_of_lt hk)) F hC2 A (by omega) hfo.1 (a_ws1 hwo (List.mem_cons_of_mem _ List.mem_cons_self) rfl) (a_ws1 hwo (List.mem_cons_of_mem _ (List.mem_cons_of_mem _ List.mem_cons_self)) rfl) hd hok3 hrun2 hsum hsz2 hc1 hc2 e10 htab hcov e9 e8 (Q := MQ below (a_Qc base cs D cA v h') ((as.map (a_cv base cs)).toArray) s (h'.2.1.1 - g.2.1.1) (h'.2.1.2 - g.2.1.2) (fun q => base ≤ q)) (c0 := g.2.1) (l := l) (below := below) (e := e) ?_
    · rw [a_take_drop] at hk2
      exact hk2
    · intro H locs cells slots lsA M
      have hlen : ls'.length = mz.2.2.1 := M.2.2.2.1.2.2.1
      have e3' := e3
      unfold a_hcode at e3'
      simp only [Bool.or_eq_true, Bool.and_eq_true, decide_eq_true_eq] at e3'
      rcases e3' with ⟨⟨⟨x1, x2⟩, x3⟩, x4⟩ | ⟨⟨⟨x1, x2⟩, x3⟩, x4⟩
      · refine s_astore_n (n := 3) F (a_dkn_ok x1) (pc' := (a_hd z).2.1.2.2.1 + 1) (ls' := ls'.set 3 (.ref (h'.1 - 1))) (st' := []) (h' := h') ?_ ?_ H locs cells slots lsA M
        · show (if 3 < ls'.length then _ else none) = _
          rw [if_pos (by omega)]
          rfl
        · refine s_iconst F (a_dkn_ok x2) ?_
          exact hE1 _ _ _ (by rw [hr1']; rfl) (a_dkn_ok x3)
      · refine s_astore (n := 4) F (a_dkn_ok x1) (pc' := (a_hd z).2.1.2.2.1 + 2) (ls' := ls'.set 4 (.ref (h'.1 - 1))) (st' := []) (h' := h') ?_ ?_ H locs cells slots lsA M
        · show (if 4 < ls'.length then _ else none) = _
          rw [if_pos (by omega)]
        · refine s_iconst F (a_dkn_ok x2) ?_
          exact hE1 _ _ _ (by rw [hr1']; rfl) (a_dkn_ok x3)
  · exfalso
    have : ∀ (as : List Value) (g : aH) (q : Nat) (h9 : aH), ¬ a_jdk (a_hd z).1 as g = some (.inr q, h9) := by
      intro as g q h9 hs
      unfold a_jdk at hs
      split at hs
      all_goals (repeat' (split at hs))
      all_goals (first | (cases hs; done) | (simp at hs; done))
    exact this _ _ _ _ hj
set_option maxRecDepth 100000 in
theorem a_noNest : lw_tbl.all (fun w => match w with
  | .methodLinkNest _ _ x _ => decide (x.cls ≠ "TypedTermReaderLaw")
  | _ => true) = true := by decide +kernel
theorem a_hs_ok {l : Launch} (hfl : l.stackTraces = false) : a_HS l := by
  intro n hR base cs D cA my c0 p e R s m args below meth c Q pc d ls as st h h' v i z b w mz F hC hck hd hz hcat hok hrun hsum hg hR1 hR2 k
  intro H locs cells slots lsA M
  obtain ⟨e1, e2, e3, e4, e5, e6, e7, e8, e9, e10⟩ := a_helper hz hcat
  have hge : a_ge h h' := a_ge_run _ _ _ _ _ _ _ _ hrun hg
  obtain ⟨m1, m2, m3, m4, m5⟩ := a_mz hz
  have hsta := List.all_eq_true.mp a_catS _ (List.mem_of_getElem? hz)
  rw [hcat] at hsta
  have hst : mz.2.2.2.2.1 = true := by simpa using hsta
  rw [if_pos hst] at m3
  have hok2 := hok
  unfold a_ok at hok2
  simp only [Bool.and_eq_true, decide_eq_true_eq, List.all_eq_true] at hok2
  have hMt := a_metH hfl hR hz hcat hok hrun hg base cs D cA
  have hF := F.2.2.2.2.2.2.2.2
  have hMM := M.2.2.2.2.1
  have hge1 := hge.2.2.1
  have hge2 := hge.2.2.2.1
  unfold a_ck1 at hck
  simp only [Bool.and_eq_true] at hck
  obtain ⟨⟨⟨hdk, hbr⟩, hfo⟩, hwo⟩ := hck
  unfold a_need at hwo
  dsimp only at hwo
  rw [hz] at hwo
  dsimp only at hwo
  have hts := F.2.2.2.2.1
  have hgood : GoodIn lw_good (Cond.codeWith mz.1 mz.2.1 mz.2.2.1 mz.2.2.2.1 [(a_hd z).2.1] :: lw_good) := by
    intro w hw
    rcases List.mem_cons.mp hw with rfl | hw
    · exact lw_good_ok _ e4
    · exact lw_good_ok _ hw
  have hwst : Cond.static mz.1 ∈ lw_good := a_ws1 hwo (List.mem_cons_of_mem _ List.mem_cons_self) rfl
  have hwin : Cond.initialized mz.1.cls ∈ lw_good := a_ws1 hwo (List.mem_cons_of_mem _ (List.mem_cons_of_mem _ List.mem_cons_self)) rfl
  obtain ⟨mk, methM, cM, hnamed, hmethM, -, -, -, -, -, -, hsigM⟩ := Cond.codeWith_spec (hts _ e4)
  have es : ((as.reverse ++ st).map (a_cv base cs)) = (as.map (a_cv base cs)).reverse ++ st.map (a_cv base cs) := by rw [List.map_append, List.map_reverse]
  rw [es]
  have hlen : (as.map (a_cv base cs)).length = mz.2.2.2.2.2.1 := by rw [List.length_map]; exact hok2.1.1.1
  have hsm : 2 * (F0 m pc lsA ((as.map (a_cv base cs)).reverse ++ st.map (a_cv base cs))).monitorRoom + ((st.map (a_cv base cs)).map fun v => v.category).sum ≤ 8 := lv_room (by rw [a_sum_cv]; exact hsum)
  have hlk : ¬ b % 2 = 1 := by
    intro hb
    have h1 := (a_ws_at hwo _ List.mem_cons_self).1
    unfold a_lnk at h1
    rw [if_pos hb] at h1
    have h2 := List.all_eq_true.mp a_noNest _ h1
    dsimp only at h2
    rw [e2] at h2
    exact absurd h2 (by decide)
  have hlink : Cond.methodLink my.1.cls i mz.1 ∈ lw_good := by
    have h1 := a_ws_at hwo _ List.mem_cons_self
    unfold a_lnk at h1
    rw [if_neg hlk] at h1
    refine lw_good_in h1.1 (h1.2.resolve_right (fun h => by cases h))
  have hK : Back l R p e below s args mz.1 3 8 (PreOf R (h'.2.1.1 - h.2.1.1) (h'.2.1.2 - h.2.1.2) (a_Pc base cs D cA h as)) (PostOf (a_Qc base cs D cA v h') (h'.2.1.1 - h.2.1.1) (h'.2.1.2 - h.2.1.2) (fun q => base ≤ q)) :=
    va_backW (bytes := mz.2.1) (maxL := mz.2.2.1) (ret := mz.2.2.2.1) (hh := [(a_hd z).2.1]) hMt (a_blind base cs D cA h as) rfl rfl (by show d + 16 + 1 ≤ _; omega) (by show 8 + (mz.2.2.1 + 11) + (d * 64 + 1000) ≤ _; omega) (pay_in hts hgood) List.mem_cons_self (fun a' U hU => pay_in hts lw_good_ok _ hwin a' U hU)
  refine a_cont (v := v) (a := (as.map (a_cv base cs)).toArray) (mc := h'.2.1.1 - h.2.1.1) (ms := h'.2.1.2 - h.2.1.2) ?_ M hge ⟨by omega, by omega⟩ k
  intro T hT X
  obtain ⟨v2, vm₁, ⟨U', l2, c2, s2⟩, hW₁, X', ⟨g', mk', t, L, f1, f2, hq, f3, hL, f4, f5⟩, come⟩ := X.staticBack F.1 F.2.2.2.1 (hts _ hlink) (hts _ hwst) (hts _ hwin) hnamed hmethM hsigM m2 hK (g := F0 m pc lsA ((as.map (a_cv base cs)).reverse ++ st.map (a_cv base cs))) rfl (by rw [F.2.2.1]; exact M.2.2.2.1.1) (Steps.refl _) (argsL := as.map (a_cv base cs)) (rest := st.map (a_cv base cs)) (fun sig hs => by rw [hlen]; rw [hs] at m3; exact (Option.some.inj m3).symm) rfl hsm (by rw [F.2.1]; exact hd)
    (fun vm₁ hW₁ => ⟨by show cells + _ ≤ _; omega, by show slots + _ ≤ _; omega, a_pcU hC M (T.setVm vm₁) hT hW₁⟩)
  dsimp only [Pt.U, Pt.locs, Pt.cells, Pt.slots] at X' f1 f2 f3 f4 f5 come
  subst f3; subst f4; subst f5
  exact ⟨v2, (T.setVm vm₁).calling g' mk' (as.map (a_cv base cs)).toArray, t, U', L, hT, X', hL, f1, f2, hq, fun target h => come.trans h⟩
