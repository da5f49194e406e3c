/-! THE TABLES AS THE CONSTRUCTORS LEAVE THEM -/
def tn0 : List (List Int) := [[98, 111, 111, 108], [105, 110, 100], [45, 62], [110, 117, 109]]
def ta0 : List Int := [0, 0, 2, 0]
def cn0 : List (List Int) := [[61], [84], [70], [126], [47, 92], [92, 47], [61, 61, 62], [33], [63], [64], [48], [83, 85, 67]]
def inIn (k j : Nat) (v : Int) : Bool := (aInL.filter (fun q => q.1 == k)).contains (k, j, v)
theorem inIn_mem {k j : Nat} {v : Int} (h : inIn k j v = true) : (k, j, v) ∈ aInL := (List.mem_filter.mp (List.contains_iff_mem.mp h)).1
def ntChk (P PL PS PN PF : Nat) (ns : List (List Int)) : Bool := inIn P 4 ns.length && (List.range (ns.length + 1)).all (fun i => inIn PS i (tot (ns.take i))) && (List.range ns.length).all (fun i => (List.range (ns.getD i []).length).all (fun j => inIn PL (tot (ns.take i) + j) ((ns.getD i []).getD j 0)) && inIn PN i (lb ns (bkL (ns.getD i [])) i)) && (List.range 256).all (fun b => inIn PF b (lb ns b ns.length))
theorem tot_take (ns : List (List Int)) (i : Nat) (h : i < ns.length) : tot (ns.take (i + 1)) = tot (ns.take i) + (ns.getD i []).length := by
  unfold tot
  rw [List.take_succ, List.map_append, List.sum_append, List.getD_eq_getElem?_getD, List.getElem?_eq_getElem h]
  simp
theorem nt_init {P PL PS PN PF NL NN : Nat} {ns : List (List Int)} {s : aZ} (hz : ∀ k j v, (k, j, v) ∈ aInL → zz s k j = v) (hc : ntChk P PL PS PN PF ns = true) (h1 : ns.length ≤ NN) (h2 : tot ns ≤ NL) : NT P PL PS PN PF NL NN ns s := by
  unfold ntChk at hc
  simp only [Bool.and_eq_true, List.all_eq_true, List.mem_range] at hc
  obtain ⟨⟨⟨c1, c2⟩, c3⟩, c4⟩ := hc
  have e : ∀ i, i ≤ ns.length → zz s PS i = tot (ns.take i) := fun i hi => hz _ _ _ (inIn_mem (c2 i (by omega)))
  refine ⟨⟨hz _ _ _ (inIn_mem c1), (e 0 (Nat.zero_le _)).trans rfl, fun i hi => ⟨?_, ?_, fun j hj => ?_⟩⟩, fun b hb => hz _ _ _ (inIn_mem (c4 b hb)), fun i hi => hz _ _ _ (inIn_mem (c3 i hi).2), h1, ?_⟩
  · rw [e (i + 1) (by omega), e i (by omega), tot_take _ _ hi]
    omega
  · rw [e i (by omega)]
    omega
  · rw [e i (by omega), natc]
    exact hz _ _ _ (inIn_mem ((c3 i hi).1 j hj))
  · rw [e ns.length (Nat.le_refl _), List.take_length]
    omega
set_option maxRecDepth 100000 in
theorem nt10_chk : ntChk 10 12 13 14 11 tn0 = true := by decide +kernel
set_option maxRecDepth 100000 in
theorem nt26_chk : ntChk 26 28 29 30 27 cn0 = true := by decide +kernel
set_option maxRecDepth 100000 in
theorem nt3_chk : ntChk 3 5 6 7 4 [] = true := by decide +kernel
set_option maxRecDepth 100000 in
theorem ta_chk : ((List.range 4).all (fun i => inIn 16 i (ta0.getD i 0)) && (inIn 62 0 0 && inIn 62 1 0 && inIn 62 3 0 && inIn 56 4 4 && inIn 56 5 0)) = true := by decide +kernel
theorem xty_init {s : aZ} (hz : ∀ k j v, (k, j, v) ∈ aInL → zz s k j = v) : XTy tn0 ta0 s := by
  have h := ta_chk
  rw [Bool.and_eq_true, List.all_eq_true] at h
  exact ⟨nt_init hz nt10_chk (by decide) (by decide), rfl, fun i hi => hz _ _ _ (inIn_mem (h.1 i (List.mem_range.mpr hi))), by decide⟩
