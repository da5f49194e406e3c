/-! TEXTS: ldc and ldc_w of a String constant -/
def a_P2k (my : aMe) (ai : aI) : Bool := match ai.1 with
  | .ldc j => decide (ai.2.2.1 = 0) || (decide (1 ≤ ai.2.1) && (match aSrf[ai.2.1 - 1]? with
    | some q => decide (q.1 = my.1.cls ∧ q.2.1 = j)
    | none => false))
  | .ldc_w j => decide (ai.2.2.1 = 0) || (decide (1 ≤ ai.2.1) && (match aSrf[ai.2.1 - 1]? with
    | some q => decide (q.1 = my.1.cls ∧ q.2.1 = j)
    | none => false))
  | _ => true
set_option maxRecDepth 100000 in
theorem a_P2kA : (aMeL.zip aMs).all (fun q => q.2.all (fun o => match o with
    | some ai => a_P2k q.1 ai
    | none => true)) = true := by decide +kernel
theorem a_P2_at {my : aMe} {a j : Nat} (h : (decide (1 ≤ a) && (match aSrf[a - 1]? with
    | some q => decide (q.1 = my.1.cls ∧ q.2.1 = j)
    | none => false)) = true) : ∃ q, aSrf[a - 1]? = some q ∧ 1 ≤ a ∧ q.1 = my.1.cls ∧ q.2.1 = j := by
  rw [Bool.and_eq_true] at h
  cases hq : aSrf[a - 1]? with
  | none => rw [hq] at h; exact (Bool.false_ne_true h.2).elim
  | some q =>
    rw [hq] at h
    have h1 : 1 ≤ a := by simpa using h.1
    have h2 : q.1 = my.1.cls ∧ q.2.1 = j := by simpa using h.2
    exact ⟨q, rfl, h1, h2.1, h2.2⟩
theorem a_ls_ok : a_LS := by
  intro base cs D cA my c0 p l e R s m args below meth c Q pc d y a b j w ls st h i F hC hmy hai hb hi hd k
  have hP := a_allAI a_P2k a_P2kA hmy hai
  obtain ⟨adV, -, hR, -⟩ := hC.2.2.2.2.1
  have ea : 1 ≤ a → a_ad base cs (aC0 + a) = cs (a - 1 + 2) := by
    intro h1
    have e1 : ¬ aC0 + a < aSc := by unfold aC0 aSc; omega
    unfold a_ad
    rw [if_neg e1]
    have e2 : aC0 + a - aSc = a - 1 + 2 := by unfold aC0 aSc; omega
    rw [e2]
  rcases hi with rfl | rfl
  · unfold a_P2k at hP
    dsimp only at hP
    rw [Bool.or_eq_true] at hP
    obtain ⟨q, hq, h1, g1, g2⟩ := a_P2_at (hP.resolve_left (by simpa using hb))
    intro H locs cells slots lsA M
    have kk : W p l e R s m args below meth c H locs cells slots Q (F0 m (pc + 2) lsA (.ref (a_ad base cs (aC0 + a)) :: st.map (a_cv base cs))) := k H locs cells slots lsA M
    rw [ea h1] at kk
    have hv := hR _ _ hq
    rw [g1, g2] at hv
    exact va_ldcS F.1 F.2.1 F.2.2.2.1 hv hd kk
  · unfold a_P2k at hP
    dsimp only at hP
    rw [Bool.or_eq_true] at hP
    obtain ⟨q, hq, h1, g1, g2⟩ := a_P2_at (hP.resolve_left (by simpa using hb))
    intro H locs cells slots lsA M
    have kk : W p l e R s m args below meth c H locs cells slots Q (F0 m (pc + 3) lsA (.ref (a_ad base cs (aC0 + a)) :: st.map (a_cv base cs))) := k H locs cells slots lsA M
    rw [ea h1] at kk
    have hv := hR _ _ hq
    rw [g1, g2] at hv
    intro T hT X
    obtain ⟨t, a1, b1⟩ := kk T hT X
    exact ⟨t, X.ldcStringW F.1 F.2.2.2.1 (text := q.2.2) (a := cs (a - 1 + 2)) hv.1 hv.2 (g := F0 m pc lsA (st.map (a_cv base cs))) rfl (by rw [F.2.1]; exact hd) t a1, b1⟩
