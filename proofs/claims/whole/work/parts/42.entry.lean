/-! FROM THE LAW'S ENTRY TO ITS LOOP -/
section
variable {d y pc p a b : Nat} {w : List Nat} {ls ls' st : List Value} {h : aH} {Q : aR → Prop}
theorem w_new {i k n : Nat} (hc : aCode y pc = some (.new i, a, b, w)) (hp : pc + 3 = p) (hb : b ≠ 1) (hn : h.1 + 1 < aSc) (he : h.1 = k) (ha : aNf a = n) (K : a_W d y p ls (.ref k :: st) (a_mk a n h) Q) : a_W d y pc ls st h Q := by
  subst hp
  subst he
  subst ha
  refine w_st hc ?_ K
  show (if b = 1 then _ else if h.1 + 1 < aSc then some (Sum.inl (pc + 3, ls, Value.ref h.1 :: st, a_mk a (aNf a) h)) else none) = _
  rw [if_neg hb, if_pos hn]
theorem w_asn {n : Fin 4} {x : Nat} (hc : aCode y pc = some (.astore_n n, a, b, w)) (hp : pc + 1 = p) (hn : n.val < ls.length) (hl : ls.set n.val (.ref x) = ls') (K : a_W d y p ls' st h Q) : a_W d y pc ls (.ref x :: st) h Q := by
  subst hp
  subst hl
  refine w_st hc ?_ K
  show (if n.val < ls.length then _ else _) = _
  rw [if_pos hn]
theorem w_nal {z : Int} {k n : Nat} (hc : aCode y pc = some (.newarray .long, a, b, w)) (hp : pc + 2 = p) (hz : z = (n : Int)) (hn : n ≤ 1000000) (hl : h.1 + 1 < aSc) (he : h.1 = k) (K : a_W d y p ls (.ref k :: st) (a_mk 1004 n h) Q) : a_W d y pc ls (iv z :: st) h Q := by
  subst hp
  subst he
  subst hz
  have e : (Int32.ofInt (n : Int)).toNatClampNeg = n := by
    rw [toN (by omega) (by omega)]
    omega
  have e2 : ¬ Int32.ofInt (n : Int) < 0 := by
    show ¬ Int32.ofInt (n : Int) < Int32.ofInt 0
    rw [ofI_lt ⟨by omega, by omega⟩ ⟨by decide, by decide⟩]
    omega
  refine w_st hc ?_ K
  show (if ¬ Int32.ofInt (n : Int) < 0 ∧ (Int32.ofInt (n : Int)).toNatClampNeg ≤ 1000000 ∧ h.1 + 1 < aSc ∧ a_acode .long < 1006 then some (Sum.inl (pc + 2, ls, Value.ref h.1 :: st, a_mk 1004 (Int32.ofInt (n : Int)).toNatClampNeg h)) else none) = _
  rw [if_pos ⟨e2, by rw [e]; exact hn, hl, by decide⟩, e]
end
theorem a_run_d : ∀ (n d d' y pc : Nat) (ls st : List Value) (h : aH) (r : aR), d ≤ d' → a_run n d y pc ls st h = some r → a_run n d' y pc ls st h = some r := by
  intro n
  induction n with
  | zero => intro d d' y pc ls st h r _ hs; cases hs
  | succ n ih =>
    intro d d' y pc ls st h r hdd hs
    rw [a_run_succ] at hs ⊢
    have hc : ∀ z as g r, a_call n d z as g = some r → a_call n d' z as g = some r := by
      intro z as g r hz
      unfold a_call at hz ⊢
      split at hz
      · cases hz
      · obtain ⟨e, rfl⟩ : ∃ e, d' = e + 1 := ⟨d' - 1, by omega⟩
        dsimp only
        split at hz
        · split at hz
          · rename_i hok
            rw [if_pos hok]
            exact ih _ _ _ _ _ _ _ _ (by omega) hz
          · cases hz
        · exact hz
    cases hai : aCode y pc with
    | none => rw [hai] at hs; cases hs
    | some ai =>
      rw [hai] at hs
      dsimp only at hs ⊢
      cases hst : a_step (a_call n d) (a_ctch y) pc ai.1 ai.2.1 ai.2.2.1 ls st h with
      | none => rw [hst] at hs; cases hs
      | some q =>
        rw [hst] at hs
        rw [a_step_mono hc hst]
        cases q with
        | inl s => exact ih _ _ _ _ _ _ _ _ hdd hs
        | inr r0 => exact hs
/-- a closed run, under any script -/
theorem w_ov {n d d' y : Nat} {ls : List Value} {h h' : aH} {v : Option Value} {L : Nat} {xs : Nat → Int32} {Q : aR → Prop} (hr : a_run n d y 0 ls [] h = some (.inl v, h')) (hd : d ≤ d') (hl : h.1 < aSc) (h0 : (h.2.2.1 aSc).1 = 0) (hq : Q (.inl v, a_ov L xs h')) : a_W d' y 0 ls [] (a_ov L xs h) Q := ⟨n, _, a_run_d _ _ _ _ _ _ _ _ _ hd (ov_run (L := L) (xs := xs) _ _ _ _ _ _ _ _ hr hl h0), hq⟩
theorem law_entry {L : Nat} {xs : Nat → Int32} {Q : aR → Prop} {h1 h2 : aH} (e1 : a_run 40000 900 1 0 [.ref 0] [] (a_mk 0 7 h00) = some (.inl none, h1)) (e3 : h1.1 = 56) (e2 : a_run 40000 900 136 0 (.ref 56 :: List.replicate 6 (.retAddr 0)) [] (a_mk 11 71 h1) = some (.inl none, h2)) (e4 : h2.1 = 105)
    (K : a_W 1000 0 23 [.ref aSc, .ref 0, .ref 56, .ref 105, iv (6 * ((0 : Nat) : Int)), .retAddr 0, .retAddr 0] [] (a_ov L xs (a_mk 1004 1 h2)) Q) : a_W 1000 0 0 (.ref aSc :: List.replicate 6 (.retAddr 0)) [] (a_h0 L xs) Q := by
  have g1 := a_ge_run _ _ _ _ _ _ _ _ e1 (by decide)
  have g2 : a_ge (a_mk 11 71 h1) h2 := a_ge_run _ _ _ _ _ _ _ _ e2 (by show h1.1 + 1 < aSc; rw [e3]; decide)
  have z1 : (h1.2.2.1 aSc).1 = 0 := by rw [g1.2.2.2.2.1]; rfl
  have z2 : ((a_mk 11 71 h1).2.2.1 aSc).1 = 0 := by
    show (a_kup h1.2.2.1 h1.1 (11, 71) aSc).1 = 0
    unfold a_kup
    rw [e3, if_neg (by decide)]
    exact z1
  refine w_new (p := 3) (q0 0) rfl (by decide) (by show 0 + 1 < aSc; decide) (show _ = 0 from rfl) (show _ = 7 from rfl) ?_
  refine w_dupr (p := 4) (q0 3) rfl ?_
  refine w_call (st := [.ref 0]) (as := [.ref 0]) (as' := [.ref 0]) (p := 7) (q0 4) rfl m1 (by decide) rfl rfl rfl (Nat.le_of_ble_eq_true rfl) (by decide) rfl rfl ?_
  rw [show a_mk 0 7 (a_h0 L xs) = a_ov L xs (a_mk 0 7 h00) from (ov_mk (h := h00) (by decide)).symm ▸ rfl]
  refine w_ov e1 (by decide) (by decide) rfl ⟨none, _, rfl, ?_⟩
  show a_W 1000 0 7 (.ref aSc :: List.replicate 6 (.retAddr 0)) [.ref 0] _ _
  refine w_asn (p := 8) (ls' := [.ref aSc, .ref 0, .retAddr 0, .retAddr 0, .retAddr 0, .retAddr 0, .retAddr 0]) (q0 7) rfl (Nat.le_of_ble_eq_true rfl) rfl ?_
  refine w_new (p := 11) (q0 8) rfl (by decide) (by show h1.1 + 1 < aSc; rw [e3]; decide) (show _ = 56 from e3) (show _ = 71 from rfl) ?_
  refine w_dupr (p := 12) (q0 11) rfl ?_
  rw [ov_mk (show h1.1 ≠ aSc by rw [e3]; decide)]
  refine w_call (st := [.ref 56]) (as := [.ref 56]) (as' := [.ref 56]) (p := 15) (q0 12) rfl m136 (by decide) ?_ rfl rfl (Nat.le_of_ble_eq_true rfl) (by decide) rfl rfl ?_
  · unfold a_ok
    rw [Bool.and_eq_true, Bool.or_eq_true]
    refine ⟨rfl, Or.inr ?_⟩
    show decide (56 < h1.1 + 1 ∧ ((a_ov L xs (a_mk 11 71 h1)).2.2.1 56).1 = 11) = true
    rw [decide_eq_true_eq, e3, ov_k (by decide)]
    refine ⟨by decide, ?_⟩
    show (a_kup h1.2.2.1 h1.1 (11, 71) 56).1 = 11
    unfold a_kup
    rw [e3, if_pos rfl]
  refine w_ov e2 (by decide) (by show h1.1 + 1 < aSc; rw [e3]; decide) z2 ⟨none, _, rfl, ?_⟩
  show a_W 1000 0 15 [.ref aSc, .ref 0, .retAddr 0, .retAddr 0, .retAddr 0, .retAddr 0, .retAddr 0] [.ref 56] _ _
  refine w_asn (p := 16) (ls' := [.ref aSc, .ref 0, .ref 56, .retAddr 0, .retAddr 0, .retAddr 0, .retAddr 0]) (q0 15) rfl (Nat.le_of_ble_eq_true rfl) rfl ?_
  refine w_ic (p := 17) (q0 16) rfl ?_
  refine w_nal (p := 19) (n := 1) (q0 17) rfl rfl (by decide) (by show h2.1 + 1 < aSc; rw [e4]; decide) (show _ = 105 from e4) ?_
  refine w_asn (p := 20) (ls' := [.ref aSc, .ref 0, .ref 56, .ref 105, .retAddr 0, .retAddr 0, .retAddr 0]) (q0 19) rfl (Nat.le_of_ble_eq_true rfl) rfl ?_
  refine w_ic (p := 21) (q0 20) rfl ?_
  refine w_is (p := 23) (ls' := [.ref aSc, .ref 0, .ref 56, .ref 105, iv 0, .retAddr 0, .retAddr 0]) (q0 21) rfl (Nat.le_of_ble_eq_true rfl) rfl ?_
  rw [ov_mk (show h2.1 ≠ aSc by rw [e4]; decide)]
  exact K
theorem lookup_mem {j v : Nat} : ∀ {l : List (Nat × Nat)}, l.lookup j = some v → (j, v) ∈ l := by
  intro l
  induction l with
  | nil => intro h; cases h
  | cons q l ih =>
    intro h
    obtain ⟨a, b⟩ := q
    rw [List.lookup_cons] at h
    split at h
    · rename_i he
      cases h
      rw [beq_iff_eq] at he
      rw [he]
      exact List.mem_cons_self
    · exact List.mem_cons_of_mem _ (ih h)
theorem aRf_E {k j v : Nat} (h : aRf k j = some v) : (k, j, v) ∈ aRfE := by
  have h2 : (List.range 106).all (fun k => (aRfL.getD k []).all (fun q => aRfE.contains (k, q.1, q.2))) = true := by decide +kernel
  unfold aRf at h
  have hm := lookup_mem h
  by_cases hk : k < 106
  · rw [List.all_eq_true] at h2
    have h3 := h2 k (List.mem_range.mpr hk)
    rw [List.all_eq_true] at h3
    have h4 := h3 (j, v) hm
    exact List.contains_iff_mem.mp h4
  · rw [List.getD_eq_getElem?_getD, List.getElem?_eq_none (by show 106 ≤ k; omega)] at hm
    exact absurd hm List.not_mem_nil
theorem ov_ks {L : Nat} {xs : Nat → Int32} (h : aH) : (a_ov L xs h).2.2.1 aSc = (1000, L) := by
  show (if aSc = aSc then (1000, L) else h.2.2.1 aSc) = _
  rw [if_pos rfl]
theorem ov_is {L : Nat} {xs : Nat → Int32} (h : aH) : (a_ov L xs h).2.2.2.1 aSc = xs := by
  show (if aSc = aSc then xs else h.2.2.2.1 aSc) = _
  rw [if_pos rfl]
/-- the cells at the loop's first turn -/
theorem init_BI {L : Nat} {xs : Nat → Int32} {h2 : aH} (hc : a_ick0 h2 = true) : a_BI L 0 xs (a_ov L xs (a_mk 1004 1 h2)) (a_ov L xs (a_mk 1004 1 h2)).2.2.2.1 := by
  unfold a_ick0 at hc
  simp only [Bool.and_eq_true, beq_iff_eq, decide_eq_true_eq, List.all_eq_true, List.mem_range] at hc
  obtain ⟨⟨⟨⟨⟨c1, c2⟩, c3⟩, c4⟩, c5⟩, c6⟩ := hc
  have hk : ∀ k, k < 105 → (a_mk 1004 1 h2).2.2.1 k = h2.2.2.1 k := by
    intro k hk
    show a_kup h2.2.2.1 h2.1 (1004, 1) k = _
    unfold a_kup
    rw [c1, if_neg (by omega)]
  refine ⟨⟨?_, ?_, ?_⟩, ?_, ?_, ?_⟩
  · show 106 ≤ h2.1 + 1
    omega
  · intro k hk6
    rw [ov_k (by unfold aSc; omega)]
    by_cases h5 : k = 105
    · subst h5
      show a_kup h2.2.2.1 h2.1 (1004, 1) 105 = _
      unfold a_kup
      rw [c1, if_pos rfl]
      rfl
    · rw [hk k (by omega)]
      exact c4 k (by omega)
  · intro k j v hr
    have hm := c5 _ (aRf_E hr)
    show a_new h2.2.2.2.2.2 h2.1 none k j = _
    unfold a_new
    have hk5 : k ≠ h2.1 := by
      intro e
      rw [e, c1] at hr
      exact absurd hr (by unfold aRf; simp [aRfL])
    rw [if_neg hk5]
    exact hm
  · exact ov_ks _
  · exact ov_is _
  · refine ⟨?_, ?_, ?_⟩
    · show h2.1 + 1 ≤ _
      omega
    · show h2.2.1.1 + 1 ≤ _
      omega
    · show h2.2.1.2 + 1 ≤ _
      omega
theorem init_z {L : Nat} {xs : Nat → Int32} {h2 : aH} (h1 : h2.1 = 105) (hc : a_ickI aInL h2 = true) {k j : Nat} {v : Int} (hm : (k, j, v) ∈ aInL) (hk : k < 105) : zz (a_ov L xs (a_mk 1004 1 h2)).2.2.2.1 k j = v := by
  unfold a_ickI at hc
  rw [List.all_eq_true] at hc
  have h3 := hc _ hm
  rw [beq_iff_eq] at h3
  unfold zz
  rw [ov_i (by unfold aSc; omega)]
  show (a_new h2.2.2.2.1 h2.1 0 k j).toInt = v
  unfold a_new
  rw [h1, if_neg (by omega)]
  exact h3
