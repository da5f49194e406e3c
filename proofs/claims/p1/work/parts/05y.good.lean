/-! the words that keep: they go down to every callee; the nest's links go by the state -/
def a_isN (w : Cond) : Bool := match w with
  | .methodLinkNest _ _ _ _ => true
  | .fieldLinkNest _ _ _ _ _ _ => true
  | _ => false
def lw_good : List Cond := lw_tbl.filter goodWord
theorem lw_good_in {w : Cond} (h : w ∈ lw_tbl) (g : goodWord w = true) : w ∈ lw_good := List.mem_filter.mpr ⟨h, g⟩
theorem lw_good_tbl {w : Cond} (h : w ∈ lw_good) : w ∈ lw_tbl := (List.mem_filter.mp h).1
theorem lw_good_ok : GoodIn lw_good lw_good := fun w h => ⟨h, good_of_word (List.mem_filter.mp h).2⟩
set_option maxRecDepth 100000 in
theorem a_ws_good : aWs.flatten.all (fun w => goodWord w || a_isN w) = true := by decide +kernel
/-- a word that an instruction needs -/
theorem a_ws_at {ws : List Cond} {is : List Nat} (h : a_wok ws is = true) : ∀ w ∈ ws, w ∈ lw_tbl ∧ (goodWord w = true ∨ a_isN w = true) := by
  intro w hw
  unfold a_wok at h
  rw [Bool.and_eq_true] at h
  obtain ⟨h1, h2⟩ := h
  have hl : ws.length = is.length := by simpa using h1
  obtain ⟨k, hk, rfl⟩ := List.mem_iff_getElem.mp hw
  have hz : (ws[k], is[k]'(by omega)) ∈ ws.zip is := by
    rw [List.mem_iff_getElem]
    exact ⟨k, by simp; omega, by simp⟩
  have h3 := List.all_eq_true.mp h2 _ hz
  dsimp only at h3
  cases ha : aWs[is[k]'(by omega) / 32]? with
  | none => rw [ha] at h3; cases h3
  | some l =>
    rw [ha] at h3
    dsimp only at h3
    cases hb : l[is[k]'(by omega) % 32]? with
    | none => rw [hb] at h3; cases h3
    | some v =>
      rw [hb] at h3
      have e : v = ws[k] := by simpa using h3
      have hm : ws[k] ∈ aWs.flatten := List.mem_flatten.mpr ⟨l, List.mem_of_getElem? ha, by rw [← e]; exact List.mem_of_getElem? hb⟩
      refine ⟨a_subl_mem _ _ a_ws_ok _ hm, ?_⟩
      have g := List.all_eq_true.mp a_ws_good _ hm
      rcases Bool.or_eq_true_iff.mp g with g | g
      · exact Or.inl g
      · exact Or.inr g
/-- what the check says of one instruction -/
theorem a_ckL_at {my : aMe} : ∀ (l : List (Option aI)) (p0 k : Nat) (ai : aI), a_ckL my p0 l = true → l[k]? = some (some ai) → a_ck1 my (p0 + k) ai = true
  | [], _, k, ai, _, h => by simp at h
  | none :: l, p0, 0, ai, _, h => by cases h
  | none :: l, p0, k + 1, ai, hc, h => by
    have := a_ckL_at l (p0 + 1) k ai hc h
    rwa [show p0 + 1 + k = p0 + (k + 1) by omega] at this
  | some x :: l, p0, 0, ai, hc, h => by
    cases h
    unfold a_ckL at hc
    rw [Bool.and_eq_true] at hc
    exact hc.1
  | some x :: l, p0, k + 1, ai, hc, h => by
    unfold a_ckL at hc
    rw [Bool.and_eq_true] at hc
    have := a_ckL_at l (p0 + 1) k ai hc.2 h
    rwa [show p0 + 1 + k = p0 + (k + 1) by omega] at this
theorem aMs_len : aMs.length = 208 := by decide +kernel
theorem a_code_ok {y pc : Nat} {ai : aI} (h : aCode y pc = some ai) : ∃ my, aMeL[y]? = some my ∧ a_ck1 my pc ai = true := by
  unfold aCode at h
  cases hl : aMs[y]? with
  | none => rw [hl] at h; cases h
  | some l =>
    rw [hl] at h
    dsimp only at h
    have hy : y < 208 := by rw [← aMs_len]; exact (List.getElem?_eq_some_iff.mp hl).1
    have hc := a_ckA y hy
    unfold a_ckM at hc
    rw [hl] at hc
    cases hm : aMeL[y]? with
    | none => rw [hm] at hc; cases hc
    | some my =>
      rw [hm] at hc
      dsimp only at hc
      cases hp : l[pc]? with
      | none => rw [hp] at h; cases h
      | some o =>
        rw [hp] at h
        dsimp only at h
        subst h
        have := a_ckL_at l 0 pc ai hc hp
        rw [Nat.zero_add] at this
        exact ⟨my, rfl, this⟩
theorem a_dk_ok {b : ByteArray} {pc : Nat} {i : Instr} (h : a_dk b pc i = true) : ∃ n, decode b pc = .ok (i, n) ∧ (a_sw i = true ∨ n = a_il i) := by
  unfold a_dk at h
  split at h
  · rename_i j n hd
    rw [Bool.and_eq_true, Bool.or_eq_true] at h
    have e : j = i := by simpa using h.1
    subst e
    exact ⟨n, hd, h.2.imp id (fun q => by simpa using q)⟩
  · cases h
