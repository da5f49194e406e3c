/-! CALLS OF THE JDK'S METHODS -/
def a_P3k (my : aMe) (ai : aI) : Bool := match ai.1 with
  | .invokestatic j => if ai.2.1 = 1001 then decide (Cond.methodLink my.1.cls j Lib.Math.max.name ∈ lw_tbl) else if ai.2.1 = 1002 then decide (Cond.methodLink my.1.cls j Lib.Math.min.name ∈ lw_tbl) else if ai.2.1 = 1005 then decide (Cond.methodLink my.1.cls j arraycopyName ∈ lw_tbl) else true
  | .invokevirtual j => if ai.2.1 = 1003 then decide (Cond.methodLink my.1.cls j y_len ∈ lw_tbl) else if ai.2.1 = 1004 then decide (Cond.methodLink my.1.cls j y_chr ∈ lw_tbl) else true
  | _ => true
set_option maxRecDepth 100000 in
theorem a_P3kA : (aMeL.zip aMs).all (fun q => q.2.all (fun o => match o with
    | some ai => a_P3k q.1 ai
    | none => true)) = true := by decide +kernel
theorem a_link_good {own : String} {j : Nat} {y : MethodName} (h : Cond.methodLink own j y ∈ lw_tbl) : Cond.methodLink own j y ∈ lw_good := lw_good_in h rfl
theorem jw_max : Cond.static Lib.Math.max.name ∈ lw_good ∧ Cond.initialized "java/lang/Math" ∈ lw_good ∧ Cond.code Lib.Math.max.name Lib.Math.max.code 2 (some .int) ∈ lw_good := ⟨lw_good_in (by decide +kernel) rfl, lw_good_in (by decide +kernel) rfl, lw_good_in (by decide +kernel) rfl⟩
theorem jw_min : Cond.static Lib.Math.min.name ∈ lw_good ∧ Cond.code Lib.Math.min.name Lib.Math.min.code 2 (some .int) ∈ lw_good := ⟨lw_good_in (by decide +kernel) rfl, lw_good_in (by decide +kernel) rfl⟩
theorem jw_cpy : Cond.native arraycopyName ∈ lw_good ∧ Cond.static arraycopyName ∈ lw_good ∧ Cond.initialized "java/lang/System" ∈ lw_good := ⟨lw_good_in (by decide +kernel) rfl, lw_good_in (by decide +kernel) rfl, lw_good_in (by decide +kernel) rfl⟩
theorem a_str_ad {base : Nat} {cs : Nat → Nat} {k : Nat} (h : aC0 < k) : a_ad base cs k = cs (k - (aC0 + 1) + 2) := by
  have e1 : ¬ k < aSc := by unfold aC0 at h; unfold aSc; omega
  unfold a_ad
  rw [if_neg e1]
  have e2 : k - aSc = k - (aC0 + 1) + 2 := by unfold aC0 at h ⊢; unfold aSc; omega
  rw [e2]
theorem aStr_len : aStr.length = 22 := by decide +kernel
theorem a_js_ok : a_JS := by
  intro base cs D cA my c0 p l e R s m args below meth c Q pc d ls as st h h' v y i z b w F hC hmy hai hck hi hd hz hj hsum hsz hr1 hr2 k
  have hP := a_allAI a_P3k a_P3kA hmy hai
  have hF := F.2.2.2.2.2.2.2.2
  have hfo : a_fok my (i, z, b, w) = true := by
    unfold a_ck1 at hck
    simp only [Bool.and_eq_true] at hck
    exact hck.1.2
  unfold a_jdk at hj
  split at hj
  · -- Math
    rename_i x x2
    have hst : ∃ j, i = .invokestatic j ∧ (z = 1001 ∨ z = 1002) := by
      rcases hi with ⟨j, rfl | rfl⟩
      · unfold a_fok at hfo
        dsimp only at hfo
        rw [hz] at hfo
        have h1 : z = 1003 ∨ z = 1004 := by simpa using hfo
        rcases h1 with rfl | rfl <;> simp at hj
      · refine ⟨j, rfl, ?_⟩
        by_cases q1 : z = 1001
        · exact Or.inl q1
        · by_cases q2 : z = 1002
          · exact Or.inr q2
          · rw [if_neg q1, if_neg q2] at hj; cases hj
    obtain ⟨j, rfl, hzz⟩ := hst
    unfold a_P3k at hP
    dsimp only at hP
    intro H locs cells slots lsA M
    have hMM := M.2.2.2.2.1
    have hml : c.maxLocals = lsA.size := by rw [F.2.2.1]; exact M.2.2.2.1.1.symm
    have hlo : ((st.map (a_cv base cs)).map fun v => v.category).sum + 13 ≤ R.locals := by rw [a_sum_cv]; omega
    rcases hzz with rfl | rfl
    · rw [if_pos rfl] at hj hP
      cases hj
      have hw : Cond.methodLink my.1.cls j Lib.Math.max.name ∈ lw_good := a_link_good (by simpa using hP)
      exact va_mmax F.1 F.2.1 hml F.2.2.2.1 (F.2.2.2.2.1 _ hw) (F.2.2.2.2.1 _ jw_max.1) (F.2.2.2.2.1 _ jw_max.2.1) (F.2.2.2.2.1 _ jw_max.2.2) (by omega) hlo (by omega) (by omega) hd (k H locs cells slots lsA M)
    · rw [if_neg (by decide), if_pos rfl] at hj hP
      cases hj
      have hw : Cond.methodLink my.1.cls j Lib.Math.min.name ∈ lw_good := a_link_good (by simpa using hP)
      exact va_mmin F.1 F.2.1 hml F.2.2.2.1 (F.2.2.2.2.1 _ hw) (F.2.2.2.2.1 _ jw_min.1) (F.2.2.2.2.1 _ jw_max.2.1) (F.2.2.2.2.1 _ jw_min.2) (by omega) hlo (by omega) (by omega) hd (k H locs cells slots lsA M)
  · -- String.length
    rename_i q
    split at hj
    · rename_i hq
      obtain ⟨rfl, hq⟩ := hq
      split at hj
      · rename_i tx htx
        cases hj
        have hi22 : q - (aC0 + 1) < 22 := by rw [← aStr_len]; exact (List.getElem?_eq_some_iff.mp htx).1
        have hst : ∃ j, i = .invokevirtual j := by
          rcases hi with ⟨j, rfl | rfl⟩
          · exact ⟨j, rfl⟩
          · unfold a_fok at hfo
            dsimp only at hfo
            rw [hz] at hfo
            simp at hfo
        obtain ⟨j, rfl⟩ := hst
        unfold a_P3k at hP
        dsimp only at hP
        rw [if_pos rfl] at hP
        have hw : Cond.methodLink my.1.cls j y_len ∈ lw_good := a_link_good (by simpa using hP)
        obtain ⟨adV, X⟩ := hC.2.2.2.2.1
        intro H locs cells slots lsA M
        have hMM := M.2.2.2.2.1
        have hn : (aStr.map List.length).getD (q - (aC0 + 1)) 0 = tx.length := by rw [List.getD_eq_getElem?_getD, List.getElem?_map, htx]; rfl
        have kk : W p l e R s m args below meth c H locs cells slots Q (F0 m (pc + 3) lsA (.int (Int32.ofNat tx.length) :: st.map (a_cv base cs))) := k H locs cells slots lsA M
        rw [← hn] at kk
        show W p l e R s m args below meth c H locs cells slots Q (F0 m pc lsA (.ref (a_ad base cs q) :: st.map (a_cv base cs)))
        rw [a_str_ad hq]
        obtain ⟨cB, r1, r2, r3, r4⟩ := (X.1.1 _ hi22).1
        exact j_csi (va_runV (As := []) (rest := st.map (a_cv base cs)) ⟨F.1, F.2.1, F.2.2.1, F.2.2.2.1, F.2.2.2.2.1⟩ (j_len l base cs adV hi22) ⟨callB_of 0 F.2.2.2.2.1 (j_good jw_len) rfl rfl rfl (F.2.2.2.2.1 _ (jwi 3 rfl)) (F.2.2.2.2.1 _ hw) (by decide +kernel) ⟨by show 2 + 1 ≤ _; omega, by show 8 + (1 + 11) + 2 * 64 ≤ _; omega⟩, F.2.2.2.2.1 _ (jwi 19 rfl), F.2.2.2.2.1 _ (jwi 20 rfl)⟩ ⟨j_blind _ _ _ _, ⟨cB, by rw [M.2.1.2 _ (Nat.not_le.mp r4)]; exact r1, r2, r3⟩, fun U hU hW => ⟨rfl, X.go hW (fun q hq => by rw [hU]; exact M.2.1.2 q hq)⟩⟩ rfl rfl M.2.2.2.1.1 rfl (lv_room (by rw [a_sum_cv]; exact hsum)) hd ⟨by omega, by omega⟩) kk
      · cases hj
    · cases hj
  · -- String.charAt
    rename_i q x
    split at hj
    · rename_i hq
      subst hq
      split at hj
      · rename_i ch hch
        cases hj
        unfold a_chr at hch
        split at hch
        · cases hch
        · rename_i hq
          split at hch
          · rename_i tx htx
            split at hch
            · rename_i hin
              cases hch
              have hi22 : q - (aC0 + 1) < 22 := by rw [← aStr_len]; exact (List.getElem?_eq_some_iff.mp htx).1
              have hst : ∃ j, i = .invokevirtual j := by
                rcases hi with ⟨j, rfl | rfl⟩
                · exact ⟨j, rfl⟩
                · unfold a_fok at hfo
                  dsimp only at hfo
                  rw [hz] at hfo
                  simp at hfo
              obtain ⟨j, rfl⟩ := hst
              unfold a_P3k at hP
              dsimp only at hP
              rw [if_neg (by decide), if_pos rfl] at hP
              have hw : Cond.methodLink my.1.cls j y_chr ∈ lw_good := a_link_good (by simpa using hP)
              obtain ⟨adV, X⟩ := hC.2.2.2.2.1
              have hn : (aStr.map List.length).getD (q - (aC0 + 1)) 0 = tx.length := by rw [List.getD_eq_getElem?_getD, List.getElem?_map, htx]; rfl
              have ht : aStr.getD (q - (aC0 + 1)) [] = tx := by rw [List.getD_eq_getElem?_getD, htx]; rfl
              have hin2 : vp_in x ((aStr.map List.length).getD (q - (aC0 + 1)) 0) := by rw [hn]; exact a_in_ok hin
              intro H locs cells slots lsA M
              have hMM := M.2.2.2.2.1
              have kk : W p l e R s m args below meth c H locs cells slots Q (F0 m (pc + 3) lsA (.int (Int32.ofNat (tx.getD x.toNatClampNeg 0)) :: st.map (a_cv base cs))) := k H locs cells slots lsA M
              rw [← ht] at kk
              show W p l e R s m args below meth c H locs cells slots Q (F0 m pc lsA (.int x :: .ref (a_ad base cs q) :: st.map (a_cv base cs)))
              rw [a_str_ad (by omega)]
              obtain ⟨cB, r1, r2, r3, r4⟩ := (X.1.1 _ hi22).1
              exact j_csi (va_runV (As := [.int x]) (rest := st.map (a_cv base cs)) ⟨F.1, F.2.1, F.2.2.1, F.2.2.2.1, F.2.2.2.2.1⟩ (j_chr l base cs adV hi22 hin2) ⟨callB_of 1 F.2.2.2.2.1 (j_good jw_chr) rfl rfl rfl (F.2.2.2.2.1 _ (jwi 3 rfl)) (F.2.2.2.2.1 _ hw) (by decide +kernel) ⟨by show 6 + 1 ≤ _; omega, by show 8 + (2 + 11) + 6 * 64 ≤ _; omega⟩, F.2.2.2.2.1 _ (jwi 21 rfl), F.2.2.2.2.1 _ (jwi 22 rfl)⟩ ⟨j_blind _ _ _ _, ⟨cB, by rw [M.2.1.2 _ (Nat.not_le.mp r4)]; exact r1, r2, r3⟩, fun U hU hW => ⟨rfl, X.go hW (fun q hq => by rw [hU]; exact M.2.1.2 q hq)⟩⟩ rfl rfl M.2.2.2.1.1 rfl (lv_room (by rw [a_sum_cv]; exact hsum)) hd ⟨by omega, by omega⟩) kk
            · cases hch
          · cases hch
      · cases hj
    · cases hj
  · -- System.arraycopy
    rename_i q sp q2 dp n
    split at hj
    · rename_i hq
      obtain ⟨rfl, rfl, g1, g2, h1, h2, h3, h4, h5⟩ := hq
      cases hj
      have hst : ∃ j, i = .invokestatic j := by
        rcases hi with ⟨j, rfl | rfl⟩
        · unfold a_fok at hfo
          dsimp only at hfo
          rw [hz] at hfo
          simp at hfo
        · exact ⟨j, rfl⟩
      obtain ⟨j, rfl⟩ := hst
      unfold a_P3k at hP
      dsimp only at hP
      rw [if_neg (by decide), if_neg (by decide), if_pos rfl] at hP
      have hw : Cond.methodLink my.1.cls j arraycopyName ∈ lw_good := a_link_good (by simpa using hP)
      intro H locs cells slots lsA M
      have hml : c.maxLocals = lsA.size := by rw [F.2.2.1]; exact M.2.2.2.1.1.symm
      have hA := M.1.2.2 q2 g1
      rw [a_E_arr g2 (by omega) (by omega)] at hA
      have hc1 : H[base + q2]? = some (vp_cell (cA 1000) ((h.2.2.1 q2).2, .inl (h.2.2.2.1 q2))) := hA
      obtain ⟨scr, t1, t2, t3, t4, t5, t6, t7⟩ := hC.2.2.1.1
      have hc0 : H[cs 1]? = some scr := by rw [M.2.1.2 _ (Nat.not_le.mp t7)]; exact t1
      show W p l e R s m args below meth c H locs cells slots Q (F0 m pc lsA (.int n :: .int dp :: .ref (a_ad base cs q2) :: .int sp :: .ref (cs 1) :: st.map (a_cv base cs)))
      rw [a_ad_lt (Nat.lt_trans g1 hsz)]
      have nn : ∀ z : Int32, ¬ z < 0 → z.toInt = (z.toNatClampNeg : Int) := by
        intro z hz
        have hz0 : (0 : Int) ≤ z.toInt := by
          have := Int32.not_lt.mp hz
          simpa using Int32.le_iff_toInt_le.mp this
        show z.toInt = ((z.toInt.toNat : Nat) : Int)
        omega
      have hnf : nativeFrameWords "java/lang/System" "arraycopy" 5 ≤ 200 := by decide +kernel
      intro T hT X
      obtain ⟨u6, k0, hk0, cm0, hkk0⟩ := t2
      obtain ⟨-, k1, hk1, cm1, hkk1⟩ := (hC.1.2 0 _ rfl).1 (h.2.2.1 q2).2 (fun j => .int (h.2.2.2.1 q2 j))
      obtain ⟨vm', X', step⟩ := X.arraycopy F.1 F.2.2.2.1 (F.2.2.2.2.1 _ hw) (F.2.2.2.2.1 _ jw_cpy.1) (F.2.2.2.2.1 _ jw_cpy.2.1) (F.2.2.2.2.1 _ jw_cpy.2.2) (src := cs 1) (dst := base + q2) (cs := scr) (cd := vp_cell (cA 1000) ((h.2.2.1 q2).2, .inl (h.2.2.2.1 q2))) (srcPos := sp) (destPos := dp) (n := n) (by rw [hT]; exact hc0) (by rw [hT]; exact hc1)
        u6 (fun _ h => by cases h) t3 (fun h => by cases h) hk0 hk1 hkk0 hkk1 (by simp [refKind]) h1 h2 h3
        (by rw [nn sp h1, nn n h3]; omega)
        (by rw [nn dp h2, nn n h3]; show ¬ _ > ((arrV (cA 1000) (h.2.2.1 q2).2 (fun j => .int (h.2.2.2.1 q2 j))).slots.size : Int); rw [arrV_size]; omega)
        (fun vm₁ _ i hi => by
          have e : scr.slots.getD (sp.toNatClampNeg + i) .null = .int (aTab.getD (sp.toNatClampNeg + i) 0) := by
            rw [Array.getD_eq_getD_getElem?, t6 _ (by omega)]
            rfl
          refine ⟨?_, ?_⟩
          · rw [e]
            rfl
          · rw [e]
            exact trivial)
        (g := F0 m pc lsA (.int n :: .int dp :: .ref (base + q2) :: .int sp :: .ref (cs 1) :: st.map (a_cv base cs))) rfl (by rw [hml]) (rest := st.map (a_cv base cs)) rfl (by rw [F.2.1]; exact hd) (by omega) (by rw [a_sum_cv]; show 2 * 0 + _ + (nativeFrameWords "java/lang/System" "arraycopy" 5 + 11) ≤ _; omega)
      have e1 : copied scr (vp_cell (cA 1000) ((h.2.2.1 q2).2, .inl (h.2.2.2.1 q2))) sp dp n = vp_cell (cA 1000) ((h.2.2.1 q2).2, .inl (va_cpy (fun j => aTab.getD j 0) (h.2.2.2.1 q2) sp.toNatClampNeg dp.toNatClampNeg n.toNatClampNeg)) := va_copiedX (fun z => .int z) scr (cA 1000) (fun j => aTab.getD j 0) (h.2.2.2.1 q2) t6 h4
      rw [e1] at X' step
      have hl : base + q2 < H.size := (Array.getElem?_eq_some_iff.mp hc1).1
      have hheap : ((T.setVm vm').setCell (base + q2) (vp_cell (cA 1000) ((h.2.2.1 q2).2, .inl (va_cpy (fun j => aTab.getD j 0) (h.2.2.2.1 q2) sp.toNatClampNeg dp.toNatClampNeg n.toNatClampNeg)))).heap = H.setIfInBounds (base + q2) (vp_cell (cA 1000) ((h.2.2.1 q2).2, .inl (va_cpy (fun j => aTab.getD j 0) (h.2.2.2.1 q2) sp.toNatClampNeg dp.toNatClampNeg n.toNatClampNeg))) := by rw [← hT]; rfl
      generalize hN : vp_cell (cA 1000) ((h.2.2.1 q2).2, .inl (va_cpy (fun j => aTab.getD j 0) (h.2.2.2.1 q2) sp.toNatClampNeg dp.toNatClampNeg n.toNatClampNeg)) = NC at *
      have oq : ∀ x : Nat, x ≠ base + q2 → (H.setIfInBounds (base + q2) NC)[x]? = H[x]? := fun x hx => by simp [Array.getElem?_setIfInBounds, Ne.symm hx]
      have hne : aSc ≠ q2 := fun z => absurd (Nat.lt_trans g1 hsz) (by rw [z]; exact Nat.lt_irrefl _)
      obtain ⟨t, a1, b1⟩ := k _ _ cells slots lsA ⟨M.1.put rfl (by simp) oq (fun a ha => a_E_ext rfl (if_neg ha) rfl rfl) (by
          rw [a_E_arr (h := (h.1, h.2.1, h.2.2.1, (fun a => if a = q2 then va_cpy (fun j => aTab.getD j 0) (h.2.2.2.1 q2) sp.toNatClampNeg dp.toNatClampNeg n.toNatClampNeg else h.2.2.2.1 a), h.2.2.2.2.1, h.2.2.2.2.2)) (c := 1000) g2 (by omega) (by omega)]
          show (H.setIfInBounds (base + q2) NC)[base + q2]? = some (vp_cell _ _)
          rw [← hN]
          simp [Array.getElem?_setIfInBounds, hl]), ⟨M.2.1.1, fun x hx => by rw [oq x (by omega)]; exact M.2.1.2 x hx⟩, fun x hx => by
          rcases List.mem_append.mp hx with h9 | h9
          · exact M.2.2.1 x h9
          · obtain ⟨z, -, hz⟩ := List.mem_map.mp h9
            rw [← hz]
            exact Nat.le_add_right _ _, M.2.2.2.1, M.2.2.2.2.1, fun hz => by
          have e9 : (if aSc = q2 then va_cpy (fun j => aTab.getD j 0) (h.2.2.2.1 q2) sp.toNatClampNeg dp.toNatClampNeg n.toNatClampNeg else h.2.2.2.1 aSc) = h.2.2.2.1 aSc := if_neg hne
          show va_X (cs 0) (h.2.2.1 aSc).2 (if aSc = q2 then va_cpy (fun j => aTab.getD j 0) (h.2.2.2.1 q2) sp.toNatClampNeg dp.toNatClampNeg n.toNatClampNeg else h.2.2.2.1 aSc) s s.heap ∧ cs 0 < base
          rw [e9]
          exact M.2.2.2.2.2 hz⟩ _ hheap X'
      exact ⟨t, step t a1, b1⟩
    · cases hj
  · cases hj
