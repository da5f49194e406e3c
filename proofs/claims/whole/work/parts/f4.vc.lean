/-! THE CLAIM -/
def lt105 : Bool := aInL.all (fun q => decide (q.1 < 105)) && aLnL.all (fun q => decide (q.1 < 105))
set_option maxRecDepth 100000 in
theorem lt105_ok : lt105 = true := by decide +kernel
def n0L : List (Int × Int × Int) := [(-1000, -1, -1), (0, -1, -1), (3, -1, -1), (2, 1, 1), (2, 1, 3), (2, 0, 1), (2, 0, 1), (2, 0, 6), (2, 1, 1), (2, 5, 1), (2, 5, 1), (2, 5, 0), (2, 2, 2)]
def n0Chk : Bool := (List.range 13).all (fun j => inIn 64 j (n0L.getD j (0, 0, 0)).1 && inIn 65 j (n0L.getD j (0, 0, 0)).2.1 && inIn 66 j (n0L.getD j (0, 0, 0)).2.2)
set_option maxRecDepth 100000 in
theorem n0_chk : n0Chk = true := by decide +kernel
def o0Chk : Bool := (List.range 13).all (fun j => decide ((-1 ≤ (n0L.getD j (0, 0, 0)).2.1 ∧ (n0L.getD j (0, 0, 0)).2.1 < j) ∧ (-1 ≤ (n0L.getD j (0, 0, 0)).2.2 ∧ (n0L.getD j (0, 0, 0)).2.2 < j) ∧ (-2000000 ≤ (n0L.getD j (0, 0, 0)).1 ∧ (n0L.getD j (0, 0, 0)).1 < ta0.length ∧ (n0L.getD j (0, 0, 0)).1 ≠ -1) ∧ (0 ≤ (n0L.getD j (0, 0, 0)).2.1 ↔ 1 ≤ arT ta0 (n0L.getD j (0, 0, 0)).1) ∧ (0 ≤ (n0L.getD j (0, 0, 0)).2.2 ↔ 2 ≤ arT ta0 (n0L.getD j (0, 0, 0)).1)))
theorem o0_chk : o0Chk = true := by decide +kernel
theorem mfx_init {s : aZ} (hz : ∀ k j v, (k, j, v) ∈ aInL → zz s k j = v) : MFx ta0 13 s := by
  intro j hj
  have h1 := n0_chk
  have h2 := o0_chk
  unfold n0Chk at h1
  unfold o0Chk at h2
  rw [List.all_eq_true] at h1 h2
  have a := h1 j (List.mem_range.mpr hj)
  have b := of_decide_eq_true (h2 j (List.mem_range.mpr hj))
  rw [Bool.and_eq_true, Bool.and_eq_true] at a
  unfold okD
  rw [hz _ _ _ (inIn_mem a.1.1), hz _ _ _ (inIn_mem a.1.2), hz _ _ _ (inIn_mem a.2)]
  exact b
def s0Chk : Bool := inIn 1 2 0 && inIn 56 2 0 && inIn 1 10 0 && inIn 56 22 0 && inIn 1 11 (-1) && inIn 56 23 (-1) && inIn 47 0 0 && inIn 48 0 0 && inIn 49 0 0 && inIn 50 0 0 && inIn 53 0 0 && inIn 51 4 0 && inIn 56 18 0
set_option maxRecDepth 100000 in
theorem s0_chk : s0Chk = true := by decide +kernel
theorem cn0_ok : CnO cn0 ∧ CnP cn0 := by
  refine ⟨⟨by decide, by decide, by decide, by decide, by decide, by decide⟩, ⟨by decide, by decide, by decide, by decide⟩⟩
theorem iv_init {B : aH} {s : aZ} {l : aZL} (hz : ∀ k j v, (k, j, v) ∈ aInL → zz s k j = v) (hl : ∀ k j v, (k, j, v) ∈ aLnL → (l k j).toInt = v) : IvW 0 B s l := by
  have h := s0_chk
  unfold s0Chk at h
  simp only [Bool.and_eq_true] at h
  obtain ⟨⟨⟨⟨⟨⟨⟨⟨⟨⟨⟨⟨c1, c2⟩, c3⟩, c4⟩, c5⟩, c6⟩, c7⟩, c8⟩, c9⟩, c10⟩, c11⟩, c12⟩, c13⟩ := h
  have z : ∀ {k j : Nat} {v : Int}, inIn k j v = true → zz s k j = v := fun c => hz _ _ _ (inIn_mem c)
  refine ⟨0, [], tn0, ta0, cn0, ct0, 13, By0 (z c1) (z c2), by decide, ⟨fun i j _ h => absurd h (Nat.not_lt_zero _), fun nm h => absurd h List.not_mem_nil⟩, ⟨nt_init hz nt3_chk (by decide) (by decide), mv_init hz⟩, ⟨xty_init hz, mty_init hz hl, fun i => ?_, rfl⟩, ⟨xco_init hz, mco_init hz hl, wf_init, mfx_init hz⟩, ⟨cn0_ok.1, cn0_ok.2, rfl, rfl, rfl, rfl⟩, ⟨z c7, z c8, z c9, z c10⟩, z c11, ⟨(z c3).trans (z c4).symm, (z c5).trans (z c6).symm⟩, 0, by decide, z c12, z c13, fun i h => absurd h (Nat.not_lt_zero _)⟩
  rcases (show i = 0 ∨ i = 1 ∨ i = 2 ∨ i = 3 ∨ 4 ≤ i by omega) with e | e | e | e | e
  · rw [e]; decide
  · rw [e]; decide
  · rw [e]; decide
  · rw [e]; decide
  · rw [List.getD_eq_getElem?_getD, List.getElem?_eq_none (by show 4 ≤ i; exact e)]
    decide
theorem whole_pure : a_Pure := by
  intro L xs hL
  obtain ⟨h1, h2, e1, e3, e2, hc, hi⟩ := a_init
  have h5 : h2.1 = 105 := by
    have := hc
    unfold a_ick0 at this
    simp only [Bool.and_eq_true, beq_iff_eq] at this
    exact this.1.1.1.1.1
  have hlt := lt105_ok
  unfold lt105 at hlt
  rw [Bool.and_eq_true, List.all_eq_true, List.all_eq_true] at hlt
  have hI0 : IvW 0 (a_ov L xs (a_mk 1004 1 h2)) (a_ov L xs (a_mk 1004 1 h2)).2.2.2.1 (a_ov L xs (a_mk 1004 1 h2)).2.2.2.2.1 := iv_init (fun k j v hm => init_z h5 hi hm (of_decide_eq_true (hlt.1 _ hm))) (fun k j v hm => init_l h5 hc hm (of_decide_eq_true (hlt.2 _ hm)))
  have key : a_W 1000 0 0 (.ref aSc :: List.replicate 6 (.retAddr 0)) [] (a_h0 L xs) (fun r => ∃ hf, r = (.inl (some (.int 1)), hf) ∧ hf.2.1.1 ≤ 106 + 512 ∧ hf.2.1.2 ≤ 1300001 + 6 * 512) := by
    refine law_entry e1 e3 e2 h5 ?_
    refine law_loop (d := 1000) (L := L) (by decide) (by omega) xs IvW ?_ ?_ ?_ ?_ ?_ ?_ ?_ 513 0 (a_ov L xs (a_mk 1004 1 h2)) (a_ov L xs (a_mk 1004 1 h2)).2.2.2.1 (a_ov L xs (a_mk 1004 1 h2)).2.2.2.2.1 _ _ (by omega) (by omega) hI0 (init_BI hc)
    · intro i B s l a b c e g hi6 ha hb hcc he hg hI hB
      exact iv_feed (by decide) hI hB
    · intro i B s l a hi6 ha hI hB
      exact iv_term (by decide) hL hi6 ha hI hB
    · intro i B s l a hi6 ha hI hB
      exact iv_const (by decide) hL hi6 ha hI hB
    · intro i B s l a hi6 ha hI hB
      exact iv_type (by decide) hL hi6 ha hI hB
    · intro i B s l hi6 hI
      exact iv_place hI
    · intro i B s l a hi6 ha hI hB
      exact iv_sym (by decide) (by omega) ha hI hB
    · intro i B s l a b hi6 ha hb hI hB
      exact iv_tsym (by decide) (by omega) ha hb hI hB
  obtain ⟨N, r, hr, hf, rfl, k1, k2⟩ := key
  exact ⟨N, hf, hr, by omega, by omega⟩
theorem i_vc : Claimed_1_1 ∧ Claimed_1_2 := a_ivc whole_pure
