/-! SOUNDNESS: by induction on the steps -/
theorem a_ws1 {ws : List Cond} {is : List Nat} {w : Cond} (h : a_wok ws is = true) (hw : w ∈ ws) (hg : a_isN w = false) : w ∈ lw_good := by
  obtain ⟨h1, h2⟩ := a_ws_at h w hw
  refine lw_good_in h1 (h2.resolve_right ?_)
  rw [hg]
  decide
theorem a_take_drop {st : List Value} {b : Nat} : ((st.take b).reverse).reverse ++ st.drop b = st := by rw [List.reverse_reverse, List.take_append_drop]
set_option maxHeartbeats 4000000 in
theorem a_step_ret {call : Nat → List Value → aH → Option aR} {ct : Bool} {pc : Nat} {i : Instr} {a b : Nat} {ls st : List Value} {h : aH} {r : aR} (hs : a_step call ct pc i a b ls st h = some (.inr r)) : (i = .ireturn ∧ ∃ x, st = [.int x] ∧ r = (.inl (some (.int x)), h)) ∨ (i = .return_ ∧ st = [] ∧ r = (.inl none, h)) ∨ (∃ j, i = .new j ∧ b = 1 ∧ (h.1 + 1 < aSc ∧ st.isEmpty = true) ∧ r = (.inr a, a_mk a 6 h)) ∨ (∃ j, (i = .invokevirtual j ∨ i = .invokestatic j ∨ i = .invokespecial j) ∧ ct = true ∧ b / 2 ≤ st.length ∧ ((st.drop (b / 2)).map fun v => v.category).sum ≤ 8 ∧ ∃ ci, call a (st.take (b / 2)).reverse h = some (.inr ci, r.2) ∧ r.1 = .inl (some (.int 1))) := by
  unfold a_step at hs
  split at hs
  all_goals (try unfold a_go at hs)
  all_goals (try unfold a_sti at hs)
  all_goals (try unfold a_sta at hs)
  all_goals (try unfold a_inc at hs)
  all_goals (try unfold a_putf at hs)
  all_goals (try unfold a_ast at hs)
  all_goals (try unfold a_astL at hs)
  all_goals (try unfold a_newa at hs)
  all_goals (try unfold a_inv at hs)
  all_goals (repeat' (split at hs))
  all_goals first
    | (cases hs; done)
    | (cases hs; exact Or.inl ⟨rfl, _, rfl, rfl⟩)
    | (cases hs; exact Or.inr (Or.inl ⟨rfl, rfl, rfl⟩))
    | (rename_i hb hl; cases hs; exact Or.inr (Or.inr (Or.inl ⟨_, rfl, hb, hl, rfl⟩)))
    | (rename_i hb _ ci h2 hc hct; cases hs; exact Or.inr (Or.inr (Or.inr ⟨_, Or.inl rfl, hct, hb.1, hb.2, ci, hc, rfl⟩)))
    | (rename_i hb _ ci h2 hc hct; cases hs; exact Or.inr (Or.inr (Or.inr ⟨_, Or.inr (Or.inl rfl), hct, hb.1, hb.2, ci, hc, rfl⟩)))
    | (rename_i hb _ ci h2 hc hct; cases hs; exact Or.inr (Or.inr (Or.inr ⟨_, Or.inr (Or.inr rfl), hct, hb.1, hb.2, ci, hc, rfl⟩)))
theorem a_lk_ok {pc : Nat} {d x : Int} : ∀ {ps : List (Int × Int)}, (∀ q ∈ ps, 0 ≤ (pc : Int) + q.2) → 0 ≤ (pc : Int) + d → 0 ≤ (pc : Int) + a_lk ps d x := by
  intro ps h hd
  unfold a_lk
  induction ps with
  | nil => exact hd
  | cons q r ih =>
    unfold Op.lookupswitch.offset
    split
    · exact h q List.mem_cons_self
    · exact ih (fun z hz => h z (List.mem_cons_of_mem _ hz))
theorem a_jdk_1100 (as : List Value) (h : aH) (r : aR) : ¬ a_jdk 1100 as h = some r := by
  intro hs
  unfold a_jdk at hs
  split at hs <;> simp at hs
/-- a check of every instruction -/
theorem a_allAI (P : aMe → aI → Bool) (h : (aMeL.zip aMs).all (fun q => q.2.all (fun o => match o with
    | some ai => P q.1 ai
    | none => true)) = true) {y pc : Nat} {ai : aI} {my : aMe} (hm : aMeL[y]? = some my) (hc : aCode y pc = some ai) : P my ai = true := by
  unfold aCode at hc
  cases hl : aMs[y]? with
  | none => rw [hl] at hc; cases hc
  | some l =>
    rw [hl] at hc
    dsimp only at hc
    cases hp : l[pc]? with
    | none => rw [hp] at hc; cases hc
    | some o =>
      rw [hp] at hc
      dsimp only at hc
      subst hc
      have hz : (my, l) ∈ aMeL.zip aMs := by
        refine List.mem_of_getElem? (i := y) ?_
        rw [List.getElem?_zip_eq_some]
        exact ⟨hm, hl⟩
      exact List.all_eq_true.mp (List.all_eq_true.mp h _ hz) _ (List.mem_of_getElem? hp)
def a_P1k (_ : aMe) (ai : aI) : Bool := match ai.1 with
  | .invokevirtual _ => decide (1 ≤ ai.2.1)
  | .invokestatic _ => decide (1 ≤ ai.2.1)
  | .invokespecial _ => decide (1 ≤ ai.2.1) && (match aMeL[ai.2.1]? with
    | some mz => decide (mz.2.2.2.1 = none)
    | none => true)
  | _ => true
set_option maxRecDepth 100000 in
theorem a_P1kA : (aMeL.zip aMs).all (fun q => q.2.all (fun o => match o with
    | some ai => a_P1k q.1 ai
    | none => true)) = true := by decide +kernel
set_option maxRecDepth 100000 in
theorem a_catS : aMeL.all (fun m => !m.2.2.2.2.2.2.2 || m.2.2.2.2.1) = true := by decide +kernel
theorem a_inv_inv {call : Nat → List Value → aH → Option aR} {ct : Bool} {a b pc pc' : Nat} {ls st ls' st' : List Value} {h h' : aH} (hs : a_inv call ct a b pc ls st h = some (.inl (pc', ls', st', h'))) : ∃ v, b ≤ st.length ∧ ((st.drop b).map fun v => v.category).sum ≤ 8 ∧ call a (st.take b).reverse h = some (.inl v, h') ∧ pc' = pc ∧ ls' = ls ∧ st' = v.toList ++ st.drop b := by
  unfold a_inv at hs
  split at hs
  · rename_i hb
    split at hs
    · rename_i v h2 he
      cases hs
      exact ⟨v, hb.1, hb.2, he, rfl, rfl, rfl⟩
    · split at hs <;> cases hs
    · cases hs
  · cases hs
theorem a_call_inv {n d z : Nat} {as : List Value} {g : aH} {r : aR} (hs : a_call n d z as g = some r) : ∃ d', d = d' + 1 ∧ ((∃ mz, aMeL[z]? = some mz ∧ a_ok mz as g = true ∧ a_run n d' z 0 (a_loc mz as) [] g = some r) ∨ (aMeL[z]? = none ∧ a_jdk z as g = some r)) := by
  unfold a_call at hs
  split at hs
  · cases hs
  · rename_i d'
    refine ⟨d', rfl, ?_⟩
    split at hs
    · rename_i mz hz
      split at hs
      · rename_i hok
        exact Or.inl ⟨mz, hz, hok, hs⟩
      · cases hs
    · rename_i hz
      exact Or.inr ⟨hz, hs⟩
set_option maxHeartbeats 8000000 in
set_option maxRecDepth 100000 in
theorem a_snd {l : Launch} (hJ : a_JS) (hH : a_HS l) (hL : a_LS) : ∀ n, ∀ k, k ≤ n → a_RunG l k := by
  intro n
  induction n with
  | zero =>
    intro k hk
    have : k = 0 := by omega
    subst this
    intro d y pc ls st h r my hs
    cases hs
  | succ n ih =>
    intro k hk
    rcases Nat.lt_or_ge k (n + 1) with hlt | hge
    · exact ih k (by omega)
    have : k = n + 1 := by omega
    subst this
    intro d y pc ls st h r my hs hmy base cs D cA c0 p e R s m args below meth c Q F hC hsz hR1 hR2 hE1 hE2 hE3 hE4
    rw [a_run_succ] at hs
    cases hai : aCode y pc with
    | none => rw [hai] at hs; cases hs
    | some ai =>
    rw [hai] at hs
    obtain ⟨my2, hmy2, hck⟩ := a_code_ok hai
    cases hmy.symm.trans hmy2
    obtain ⟨i, a, b, w⟩ := ai
    dsimp only at hs
    have hck' := hck
    unfold a_ck1 at hck
    simp only [Bool.and_eq_true] at hck
    obtain ⟨⟨⟨hdk, hbr⟩, hfo⟩, hwo⟩ := hck
    obtain ⟨nn, hd, hsw⟩ := a_dk_ok hdk
    have hcc : ∀ z as g r, g.1 < aSc → a_call n d z as g = some r → a_ge g r.2 := by
      intro z as g r hg hz
      unfold a_call at hz
      split at hz
      · cases hz
      · split at hz
        · split at hz
          · exact a_ge_run _ _ _ _ _ _ _ _ hz hg
          · cases hz
        · exact a_ge_jdk hz hg
    cases hst : a_step (a_call n d) (a_ctch y) pc i a b ls st h with
    | none => rw [hst] at hs; cases hs
    | some o =>
    rw [hst] at hs
    have hgs := a_ge_step hcc hst hsz
    cases o with
    | inr r0 =>
      dsimp only at hs
      have hrk : a_rok y r0 = true := by
        by_cases hq : a_rok y r0 = true
        · exact hq
        · rw [if_neg hq] at hs; cases hs
      rw [if_pos hrk] at hs
      cases hs
      unfold a_rok at hrk
      rw [hmy] at hrk
      dsimp only at hrk
      rcases a_step_ret hst with ⟨rfl, x, rfl, rfl⟩ | ⟨rfl, rfl, rfl⟩ | ⟨j, rfl, rfl, hl9, rfl⟩ | ⟨j, hi9, hct, hb9, hs9, ci, hc9, hr9⟩
      · have e1 : nn = 1 := hsw.resolve_left Bool.false_ne_true
        subst e1
        refine hE1 pc ls x rfl hd ?_
        split at hrk
        · rename_i ht _; exact Or.inl ht
        · rename_i x2 ht hx
          cases hx
          exact Or.inr ⟨ht, by simpa using hrk⟩
        · rename_i hx; cases hx
        · rename_i hx; cases hx
        · cases hrk
      · have e1 : nn = 1 := hsw.resolve_left Bool.false_ne_true
        subst e1
        refine hE2 pc ls rfl hd ?_
        split at hrk
        · rename_i hx; cases hx
        · rename_i hx; cases hx
        · rename_i ht _; exact ht
        · rename_i hx; cases hx
        · cases hrk
      · have e1 : nn = 3 := hsw.resolve_left Bool.false_ne_true
        subst e1
        rw [List.isEmpty_iff.mp hl9.2]
        exact hE4 pc ls h j a w hai hl9.1 hC rfl hd
      · have e1 : nn = 3 := by
          rcases hi9 with rfl | rfl | rfl <;> exact hsw.resolve_left Bool.false_ne_true
        subst e1
        have hcat : my.2.2.2.2.2.2.2 = true := by unfold a_ctch at hct; rw [hmy] at hct; exact hct
        exact hE3 hcat n pc ls st h i j a b ci w (Nat.lt_succ_self n) hai hi9 hsz hC hb9 hs9 hc9 hr9 hd
    | inl q =>
      obtain ⟨pc', ls', st', h'⟩ := q
      dsimp only at hs
      have hgr : a_ge h' r.2 := a_ge_run _ _ _ _ _ _ _ _ hs hgs.2.1
      have hgh : a_ge h h' := hgs
      have hC' : a_Cx base cs D cA h' s := hC.go (State.WarmedH.refl s) (fun _ _ => rfl) ⟨hgh.2.2.2.2.1, hgh.2.2.2.2.2⟩
      have kk := ih n (Nat.le_refl n) d y pc' ls' st' h' r my hs hmy base cs D cA c0 p e R s m args below meth c Q F hC' hgh.2.1 hR1 hR2 hE1 hE2 (fun hc k2 => fun pc2 ls2 st2 h2 i2 j2 z2 b2 ci2 w2 hk2 => hE3 hc k2 pc2 ls2 st2 h2 i2 j2 z2 b2 ci2 w2 (Nat.lt_succ_of_lt hk2)) hE4
      have hR1' : h'.2.1.1 ≤ c0.1 + R.cells := Nat.le_trans hgr.2.2.1 hR1
      have hR2' : h'.2.1.2 ≤ c0.2 + R.slots := Nat.le_trans hgr.2.2.2.1 hR2
      clear hs
      cases i with
      | iconst z =>
        have e1 : nn = 1 := hsw.resolve_left Bool.false_ne_true
        subst e1
        cases hst
        exact s_iconst F hd kk
      | bipush z =>
        have e1 : nn = 2 := hsw.resolve_left Bool.false_ne_true
        subst e1
        cases hst
        exact s_bipush F hd kk
      | sipush z =>
        have e1 : nn = 3 := hsw.resolve_left Bool.false_ne_true
        subst e1
        cases hst
        exact s_sipush F hd kk
      | lconst z =>
        have e1 : nn = 1 := hsw.resolve_left Bool.false_ne_true
        subst e1
        cases hst
        exact s_lconst F hd kk
      | iload z =>
        have e1 : nn = 2 := hsw.resolve_left Bool.false_ne_true
        subst e1
        obtain ⟨q1, rfl, rfl, rfl⟩ := a_go_inv hst
        exact s_iload F hd q1 kk
      | iload_n z =>
        have e1 : nn = 1 := hsw.resolve_left Bool.false_ne_true
        subst e1
        obtain ⟨q1, rfl, rfl, rfl⟩ := a_go_inv hst
        exact s_iload_n F hd q1 kk
      | aload z =>
        have e1 : nn = 2 := hsw.resolve_left Bool.false_ne_true
        subst e1
        obtain ⟨q1, rfl, rfl, rfl⟩ := a_go_inv hst
        exact s_aload F hd q1 kk
      | aload_n z =>
        have e1 : nn = 1 := hsw.resolve_left Bool.false_ne_true
        subst e1
        obtain ⟨q1, rfl, rfl, rfl⟩ := a_go_inv hst
        exact s_aload_n F hd q1 kk
      | istore z =>
        have e1 : nn = 2 := hsw.resolve_left Bool.false_ne_true
        subst e1
        exact s_istore F hd hst kk
      | istore_n z =>
        have e1 : nn = 1 := hsw.resolve_left Bool.false_ne_true
        subst e1
        exact s_istore_n F hd hst kk
      | astore z =>
        have e1 : nn = 2 := hsw.resolve_left Bool.false_ne_true
        subst e1
        exact s_astore F hd hst kk
      | astore_n z =>
        have e1 : nn = 1 := hsw.resolve_left Bool.false_ne_true
        subst e1
        exact s_astore_n F hd hst kk
      | iinc z1 z2 =>
        have e1 : nn = 3 := hsw.resolve_left Bool.false_ne_true
        subst e1
        exact s_iinc F hd hst kk
      | iadd =>
        have e1 : nn = 1 := hsw.resolve_left Bool.false_ne_true
        subst e1
        obtain ⟨q1, rfl, rfl, rfl⟩ := a_go_inv hst
        exact s_iadd F hd q1 kk
      | isub =>
        have e1 : nn = 1 := hsw.resolve_left Bool.false_ne_true
        subst e1
        obtain ⟨q1, rfl, rfl, rfl⟩ := a_go_inv hst
        exact s_isub F hd q1 kk
      | imul =>
        have e1 : nn = 1 := hsw.resolve_left Bool.false_ne_true
        subst e1
        obtain ⟨q1, rfl, rfl, rfl⟩ := a_go_inv hst
        exact s_imul F hd q1 kk
      | iand =>
        have e1 : nn = 1 := hsw.resolve_left Bool.false_ne_true
        subst e1
        obtain ⟨q1, rfl, rfl, rfl⟩ := a_go_inv hst
        exact s_iand F hd q1 kk
      | iushr =>
        have e1 : nn = 1 := hsw.resolve_left Bool.false_ne_true
        subst e1
        obtain ⟨q1, rfl, rfl, rfl⟩ := a_go_inv hst
        exact s_iushr F hd q1 kk
      | ishr =>
        have e1 : nn = 1 := hsw.resolve_left Bool.false_ne_true
        subst e1
        obtain ⟨q1, rfl, rfl, rfl⟩ := a_go_inv hst
        exact s_ishr F hd q1 kk
      | i2b =>
        have e1 : nn = 1 := hsw.resolve_left Bool.false_ne_true
        subst e1
        obtain ⟨q1, rfl, rfl, rfl⟩ := a_go_inv hst
        exact s_i2b F hd q1 kk
      | idiv =>
        have e1 : nn = 1 := hsw.resolve_left Bool.false_ne_true
        subst e1
        have hst2 := hst
        unfold a_step at hst2
        dsimp only at hst2
        split at hst2
        · split at hst2
          · cases hst2
          · rename_i hn
            cases hst2
            exact s_idiv F hd hn kk
        · cases hst2
      | irem =>
        have e1 : nn = 1 := hsw.resolve_left Bool.false_ne_true
        subst e1
        have hst2 := hst
        unfold a_step at hst2
        dsimp only at hst2
        split at hst2
        · split at hst2
          · cases hst2
          · rename_i hn
            cases hst2
            exact s_irem F hd hn kk
        · cases hst2
      | i2l =>
        have e1 : nn = 1 := hsw.resolve_left Bool.false_ne_true
        subst e1
        have hst2 := hst
        unfold a_step at hst2
        dsimp only at hst2
        split at hst2
        · cases hst2
          exact s_i2l F hd kk
        · cases hst2
      | lor =>
        have e1 : nn = 1 := hsw.resolve_left Bool.false_ne_true
        subst e1
        have hst2 := hst
        unfold a_step at hst2
        dsimp only at hst2
        split at hst2
        · cases hst2
          exact s_lor F hd kk
        · cases hst2
      | lshl =>
        have e1 : nn = 1 := hsw.resolve_left Bool.false_ne_true
        subst e1
        have hst2 := hst
        unfold a_step at hst2
        dsimp only at hst2
        split at hst2
        · cases hst2
          exact s_lshl F hd kk
        · cases hst2
      | lcmp =>
        have e1 : nn = 1 := hsw.resolve_left Bool.false_ne_true
        subst e1
        have hst2 := hst
        unfold a_step at hst2
        dsimp only at hst2
        split at hst2
        · cases hst2
          exact s_lcmp F hd kk
        · cases hst2
      | dup2 =>
        have e1 : nn = 1 := hsw.resolve_left Bool.false_ne_true
        subst e1
        have hst2 := hst
        unfold a_step at hst2
        dsimp only at hst2
        split at hst2
        · cases hst2
          exact s_dup2 F hd kk
        · cases hst2
      | dup =>
        have e1 : nn = 1 := hsw.resolve_left Bool.false_ne_true
        subst e1
        obtain ⟨q1, rfl, rfl, rfl⟩ := a_go_inv hst
        unfold a_dup at q1
        split at q1
        · cases q1
          exact s_dup_i F hd kk
        · cases q1
          exact s_dup_r F hd kk
        · cases q1
      | pop =>
        have e1 : nn = 1 := hsw.resolve_left Bool.false_ne_true
        subst e1
        obtain ⟨q1, rfl, rfl, rfl⟩ := a_go_inv hst
        unfold a_pop at q1
        split at q1
        · cases q1
          exact s_pop_i F hd kk
        · cases q1
          exact s_pop_r F hd kk
        · cases q1
      | goto z =>
        have e1 : nn = 3 := hsw.resolve_left Bool.false_ne_true
        subst e1
        have ht : (pc : Int) + z = (a : Int) := by simpa [a_br] using hbr
        cases hst
        exact s_goto F hd ht kk
      | if_icmp cc z =>
        have e1 : nn = 3 := hsw.resolve_left Bool.false_ne_true
        subst e1
        have ht : (pc : Int) + z = (a : Int) := by simpa [a_br] using hbr
        have hst2 := hst
        unfold a_step at hst2
        dsimp only at hst2
        split at hst2
        · cases hst2
          exact s_icmp F hd ht kk
        · cases hst2
      | ifCond cc z =>
        have e1 : nn = 3 := hsw.resolve_left Bool.false_ne_true
        subst e1
        have ht : (pc : Int) + z = (a : Int) := by simpa [a_br] using hbr
        have hst2 := hst
        unfold a_step at hst2
        dsimp only at hst2
        split at hst2
        · cases hst2
          exact s_ifc F hd ht kk
        · cases hst2
      | tableswitch df lo hi offs =>
        unfold a_br at hbr
        simp only [Bool.and_eq_true, decide_eq_true_eq, List.all_eq_true] at hbr
        have hst2 := hst
        unfold a_step at hst2
        dsimp only at hst2
        split at hst2
        · split at hst2
          · rename_i hx
            cases hst2
            exact s_tabO F hd hbr.1.1.1 hx kk
          · rename_i hx
            split at hst2
            · rename_i of ho
              cases hst2
              exact s_tabI F hd (hbr.1.1.2 _ (Array.mem_toList_iff.mpr (Array.mem_of_getElem? ho))) hx ho kk
            · cases hst2
        · cases hst2
      | lookupswitch df ps =>
        unfold a_br at hbr
        simp only [Bool.and_eq_true, decide_eq_true_eq] at hbr
        have hst2 := hst
        unfold a_step at hst2
        dsimp only at hst2
        split at hst2
        · rename_i x r
          cases hst2
          exact s_look F hd (a_lk_ok (fun o ho => by have := List.all_eq_true.mp hbr.1.2 _ ho; simpa using this) hbr.1.1) hbr.2 kk
        · cases hst2
      | getfield z =>
        have e1 : nn = 3 := hsw.resolve_left Bool.false_ne_true
        subst e1
        obtain ⟨q1, rfl, rfl, rfl⟩ := a_go_inv hst
        unfold a_fok at hfo
        simp only [decide_eq_true_eq] at hfo
        exact s_getf F hC.1 hd hfo.1 hfo.2.1 hfo.2.2.1 hfo.2.2.2 (a_ws1 hwo List.mem_cons_self rfl) q1 kk
      | putfield z =>
        have e1 : nn = 3 := hsw.resolve_left Bool.false_ne_true
        subst e1
        unfold a_fok at hfo
        simp only [decide_eq_true_eq] at hfo
        exact s_putf F hC.1 hd hfo.1 hfo.2.1 hfo.2.2.1 hfo.2.2.2.1 hfo.2.2.2.2 (a_ws1 hwo List.mem_cons_self rfl) hst hsz kk
      | getstatic z =>
        have e1 : nn = 3 := hsw.resolve_left Bool.false_ne_true
        subst e1
        cases hst
        obtain ⟨g1, g2⟩ := a_gst hmy hai
        subst g2
        intro H locs cells slots lsA M
        have kk2 : W p l e R s m args below meth c H locs cells slots Q (F0 m (pc + 3) lsA (.ref (cs 1) :: st.map (a_cv base cs))) := kk H locs cells slots lsA M
        obtain ⟨cf, kf, fi, f, ad, cell, h1, h2, h3, h4, h5, h6, h7, h8⟩ := hC.2.2.1.2
        have hN := F.2.2.2.2.2.2.2.2.2.2 _ a_getst rfl
        exact va_WgetsN F.1 F.2.1 F.2.2.2.1 (by rw [g1]; exact hN.use rfl) h1 h2 h3 h4 (by rw [M.2.1.2 ad (Nat.not_le.mp h8)]; exact h5) (fun e => by rw [e] at h6; cases h6) h7 rfl hd kk2
      | iaload =>
        have e1 : nn = 1 := hsw.resolve_left Bool.false_ne_true
        subst e1
        obtain ⟨q1, rfl, rfl, rfl⟩ := a_go_inv hst
        exact s_iald F hC.1 hC.2.2.1 hd q1 kk
      | baload =>
        have e1 : nn = 1 := hsw.resolve_left Bool.false_ne_true
        subst e1
        obtain ⟨q1, rfl, rfl, rfl⟩ := a_go_inv hst
        exact s_bald F hC.1 hd q1 kk
      | laload =>
        have e1 : nn = 1 := hsw.resolve_left Bool.false_ne_true
        subst e1
        obtain ⟨q1, rfl, rfl, rfl⟩ := a_go_inv hst
        exact s_lald F hC.1 hd q1 kk
      | arraylength =>
        have e1 : nn = 1 := hsw.resolve_left Bool.false_ne_true
        subst e1
        obtain ⟨q1, rfl, rfl, rfl⟩ := a_go_inv hst
        exact s_alen F hC.1 hd q1 kk
      | iastore =>
        have e1 : nn = 1 := hsw.resolve_left Bool.false_ne_true
        subst e1
        exact s_iast F hC.1 hd hsz hst kk
      | bastore =>
        have e1 : nn = 1 := hsw.resolve_left Bool.false_ne_true
        subst e1
        exact s_bast F hC.1 hd hsz hst kk
      | lastore =>
        have e1 : nn = 1 := hsw.resolve_left Bool.false_ne_true
        subst e1
        exact s_last F hC.1 hd hst kk
      | newarray t =>
        have e1 : nn = 2 := hsw.resolve_left Bool.false_ne_true
        subst e1
        exact s_newa F hC.1 hd (a_ws1 hwo List.mem_cons_self rfl) hst ⟨hR1', hR2'⟩ kk
      | new z =>
        have e1 : nn = 3 := hsw.resolve_left Bool.false_ne_true
        subst e1
        have hst2 : ((if b = 1 then (if h.1 + 1 < aSc ∧ st.isEmpty = true then some (.inr (.inr a, a_mk a 6 h)) else none) else if h.1 + 1 < aSc then some (.inl (pc + 3, ls, .ref h.1 :: st, a_mk a (aNf a) h)) else none) : Option (aS ⊕ aR)) = some (.inl (pc', ls', st', h')) := hst
        by_cases hb : b = 1
        · rw [if_pos hb] at hst2
          split at hst2 <;> cases hst2
        · rw [if_neg hb] at hst2
          split at hst2
          · rename_i hl
            cases hst2
            unfold a_fok at hfo
            simp only [decide_eq_true_eq] at hfo
            obtain ⟨f1, f2⟩ := hfo.resolve_left hb
            unfold a_need at hwo
            dsimp only at hwo
            rw [if_pos f2] at hwo
            exact s_new F hC.1 hd f1 ⟨a_ws1 hwo List.mem_cons_self rfl, a_ws1 hwo (List.mem_cons_of_mem _ List.mem_cons_self) rfl, a_ws1 hwo (List.mem_cons_of_mem _ (List.mem_cons_of_mem _ List.mem_cons_self)) rfl⟩ hl ⟨hR1', hR2'⟩ kk
          · cases hst2
      | ldc z =>
        have e1 : nn = 2 := hsw.resolve_left Bool.false_ne_true
        subst e1
        have hst2 : (if b = 0 then some (.inl (pc + 2, ls, .int (Int32.ofNat a) :: st, h)) else some (.inl (pc + 2, ls, .ref (aC0 + a) :: st, h))) = (some (.inl (pc', ls', st', h')) : Option (aS ⊕ aR)) := hst
        by_cases hb : b = 0
        · rw [if_pos hb] at hst2
          cases hst2
          unfold a_need at hwo
          dsimp only at hwo
          rw [if_pos hb] at hwo
          exact s_ldc F hd (a_ws1 hwo List.mem_cons_self rfl) kk
        · rw [if_neg hb] at hst2
          cases hst2
          exact hL base cs D cA my c0 p l e R s m args below meth c Q pc d y a b z w ls st h (.ldc z) F hC hmy hai hb (Or.inl rfl) hd kk
      | ldc_w z =>
        have e1 : nn = 3 := hsw.resolve_left Bool.false_ne_true
        subst e1
        have hst2 : (if b = 0 then some (.inl (pc + 3, ls, .int (Int32.ofNat a) :: st, h)) else some (.inl (pc + 3, ls, .ref (aC0 + a) :: st, h))) = (some (.inl (pc', ls', st', h')) : Option (aS ⊕ aR)) := hst
        by_cases hb : b = 0
        · rw [if_pos hb] at hst2
          cases hst2
          unfold a_need at hwo
          dsimp only at hwo
          rw [if_pos hb] at hwo
          exact s_ldcw F hd (a_ws1 hwo List.mem_cons_self rfl) kk
        · rw [if_neg hb] at hst2
          cases hst2
          exact hL base cs D cA my c0 p l e R s m args below meth c Q pc d y a b z w ls st h (.ldc_w z) F hC hmy hai hb (Or.inr rfl) hd kk
      | invokespecial z =>
        have e1 : nn = 3 := hsw.resolve_left Bool.false_ne_true
        subst e1
        have hP1 := a_allAI a_P1k a_P1kA hmy hai
        by_cases ha : a = 1000
        · subst ha
          have hst2 := hst
          unfold a_step at hst2
          dsimp only at hst2
          rw [if_pos rfl] at hst2
          split at hst2
          · split at hst2
            · rename_i hsum
              cases hst2
              unfold a_need at hwo
              dsimp only at hwo
              rw [if_pos rfl] at hwo
              exact s_objI F hd (a_ws1 hwo List.mem_cons_self rfl) a_objI hsum kk
            · cases hst2
          · cases hst2
        · have hst2 : a_inv (a_call n d) (a_ctch y) a (b / 2) (pc + 3) ls st h = some (.inl (pc', ls', st', h')) := by
            have := hst
            unfold a_step at this
            dsimp only at this
            rwa [if_neg ha] at this
          obtain ⟨v1, hb, hsum, hcl, rfl, rfl, rfl⟩ := a_inv_inv hst2
          obtain ⟨d', rfl, ⟨mz, hz, hok, hrun⟩ | ⟨hz, hj⟩⟩ := a_call_inv hcl
          · unfold a_P1k at hP1
            unfold a_fok at hfo
            unfold a_need at hwo
            dsimp only at hP1 hfo hwo
            rw [hz] at hP1 hfo hwo
            rw [if_neg ha] at hwo
            dsimp only at hP1 hfo hwo
            simp only [Bool.and_eq_true, decide_eq_true_eq] at hP1 hfo
            have hcf : mz.2.2.2.2.2.2.2 = false := by
              have hk := List.all_eq_true.mp a_catS _ (List.mem_of_getElem? hz)
              rw [hfo.2.1] at hk
              cases hq : mz.2.2.2.2.2.2.2 with
              | false => rfl
              | true => rw [hq] at hk; cases hk
            have A : a_CA my mz z b a := ⟨hz, hP1.1, hcf, a_ws_at hwo _ List.mem_cons_self, a_ws1 hwo (List.mem_cons_of_mem _ (List.mem_cons_of_mem _ List.mem_cons_self)) rfl⟩
            have kkc := s_callVI (ih n (Nat.le_refl n)).S F hC A hfo.2.1 (a_ws1 hwo (List.mem_cons_of_mem _ List.mem_cons_self) rfl) (Or.inr ⟨hd, hfo.1, hP1.2⟩) hok hrun hsum hsz hR1' hR2' kk
            rw [a_take_drop] at kkc
            exact kkc
          · unfold a_fok at hfo
            dsimp only at hfo
            rw [hz] at hfo
            dsimp only at hfo
            simp only [decide_eq_true_eq] at hfo
            have h11 : a = 1100 := hfo.resolve_left ha
            subst h11
            exact absurd hj (a_jdk_1100 _ _ _)
      | invokevirtual z =>
        have e1 : nn = 3 := hsw.resolve_left Bool.false_ne_true
        subst e1
        have hP1 := a_allAI a_P1k a_P1kA hmy hai
        obtain ⟨v1, hb, hsum, hcl, rfl, rfl, rfl⟩ := a_inv_inv hst
        obtain ⟨d', rfl, ⟨mz, hz, hok, hrun⟩ | ⟨hz, hj⟩⟩ := a_call_inv hcl
        · unfold a_P1k at hP1
          unfold a_fok at hfo
          unfold a_need at hwo
          dsimp only at hP1 hfo hwo
          rw [hz] at hfo hwo
          dsimp only at hfo hwo
          simp only [decide_eq_true_eq] at hP1 hfo
          have hcf : mz.2.2.2.2.2.2.2 = false := by
            have hk := List.all_eq_true.mp a_catS _ (List.mem_of_getElem? hz)
            rw [hfo.1] at hk
            cases hq : mz.2.2.2.2.2.2.2 with
            | false => rfl
            | true => rw [hq] at hk; cases hk
          have A : a_CA my mz z b a := ⟨hz, hP1, hcf, a_ws_at hwo _ List.mem_cons_self, a_ws1 hwo (List.mem_cons_of_mem _ (List.mem_cons_of_mem _ (List.mem_cons_of_mem _ List.mem_cons_self))) rfl⟩
          have kkc := s_callVI (ih n (Nat.le_refl n)).S F hC A hfo.1 (a_ws1 hwo (List.mem_cons_of_mem _ List.mem_cons_self) rfl) (Or.inl ⟨hd, a_ws1 hwo (List.mem_cons_of_mem _ (List.mem_cons_of_mem _ List.mem_cons_self)) rfl⟩) hok hrun hsum hsz hR1' hR2' kk
          rw [a_take_drop] at kkc
          exact kkc
        · have kkc := hJ base cs D cA my c0 p l e R s m args below meth c Q pc d' ls' _ _ h h' v1 y (.invokevirtual z) a b w F hC hmy hai hck' ⟨z, Or.inl rfl⟩ hd hz hj hsum hsz (Nat.le_trans hgh.2.2.1 hR1') (Nat.le_trans hgh.2.2.2.1 hR2') kk
          rw [a_take_drop] at kkc
          exact kkc
      | invokestatic z =>
        have e1 : nn = 3 := hsw.resolve_left Bool.false_ne_true
        subst e1
        have hP1 := a_allAI a_P1k a_P1kA hmy hai
        obtain ⟨v1, hb, hsum, hcl, rfl, rfl, rfl⟩ := a_inv_inv hst
        obtain ⟨d', rfl, ⟨mz, hz, hok, hrun⟩ | ⟨hz, hj⟩⟩ := a_call_inv hcl
        · cases hcf : mz.2.2.2.2.2.2.2 with
          | true =>
            have kkc := hH n ih base cs D cA my c0 p e R s m args below meth c Q pc d' ls' _ _ h h' v1 z a b w mz F hC hck' hd hz hcf hok hrun hsum hsz hR1' hR2' kk
            rw [a_take_drop] at kkc
            exact kkc
          | false =>
            unfold a_P1k at hP1
            unfold a_fok at hfo
            unfold a_need at hwo
            dsimp only at hP1 hfo hwo
            rw [hz] at hfo hwo
            dsimp only at hfo hwo
            simp only [decide_eq_true_eq] at hP1 hfo
            have A : a_CA my mz z b a := ⟨hz, hP1, hcf, a_ws_at hwo _ List.mem_cons_self, a_ws1 hwo (List.mem_cons_of_mem _ (List.mem_cons_of_mem _ List.mem_cons_self)) rfl⟩
            have kkc := s_callS (ih n (Nat.le_refl n)).S F hC A hfo.1 (a_ws1 hwo (List.mem_cons_of_mem _ List.mem_cons_self) rfl) hd hok hrun hsum hsz hR1' hR2' kk
            rw [a_take_drop] at kkc
            exact kkc
        · have kkc := hJ base cs D cA my c0 p l e R s m args below meth c Q pc d' ls' _ _ h h' v1 y (.invokestatic z) a b w F hC hmy hai hck' ⟨z, Or.inr rfl⟩ hd hz hj hsum hsz (Nat.le_trans hgh.2.2.1 hR1') (Nat.le_trans hgh.2.2.2.1 hR2') kk
          rw [a_take_drop] at kkc
          exact kkc
      | ireturn =>
        have hst2 := hst
        unfold a_step at hst2
        dsimp only at hst2
        split at hst2 <;> cases hst2
      | return_ =>
        have hst2 := hst
        unfold a_step at hst2
        dsimp only at hst2
        split at hst2 <;> cases hst2
      | _ =>
        exact absurd hst (by simp [a_step])
