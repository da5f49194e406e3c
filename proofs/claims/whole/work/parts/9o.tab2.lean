/-! THE CONSTANTS AS THE CONSTRUCTORS LEAVE THEM -/
def c0A : aT := .branch (enc (-1000)) cNo cNo
def c0B : aT := .branch (enc 0) cNo cNo
def c0N : aT := .branch (enc 3) cNo cNo
def c0F (x y : aT) : aT := .branch (enc 2) x y
def ct0 : List aT := [c0F c0A (c0F c0A c0B), c0B, c0B, c0F c0B c0B, c0F c0B (c0F c0B c0B), c0F c0B (c0F c0B c0B), c0F c0B (c0F c0B c0B), c0F (c0F c0A c0B) c0B, c0F (c0F c0A c0B) c0B, c0F (c0F c0A c0B) c0A, c0N, c0F c0N c0N]
def xcChk : Bool := (List.range 12).all (fun c => decide (0 < (pre (ct0.getD c cNo)).length) && decide ((pre (ct0.getD c cNo)).length ≤ 40) && inIn 33 c ((40 * c + (pre (ct0.getD c cNo)).length : Nat) : Int) && (List.range (pre (ct0.getD c cNo)).length).all (fun j => inIn 32 (40 * c + j) ((pre (ct0.getD c cNo)).getD j 0)))
set_option maxRecDepth 100000 in
theorem xc_chk : xcChk = true := by decide +kernel
theorem xco_init {s : aZ} (hz : ∀ k j v, (k, j, v) ∈ aInL → zz s k j = v) : XCo cn0 ct0 s := by
  have h := xc_chk
  unfold xcChk at h
  rw [List.all_eq_true] at h
  refine ⟨nt_init hz nt26_chk (by decide) (by decide), rfl, by decide, fun c hc => ?_⟩
  have h1 := h c (List.mem_range.mpr hc)
  rw [Bool.and_eq_true, Bool.and_eq_true, Bool.and_eq_true, List.all_eq_true] at h1
  exact ⟨of_decide_eq_true h1.1.1.1, of_decide_eq_true h1.1.1.2, hz _ _ _ (inIn_mem h1.1.2), fun j hj => hz _ _ _ (inIn_mem (h1.2 j (List.mem_range.mpr hj)))⟩
def lkIn (k j : Nat) : Int := match (aInL.filter (fun q => q.1 == k)).find? (fun q => q.2.1 == j) with
  | some q => q.2.2
  | none => 0
def niChk : aT → Int → Bool
  | .leaf _, w => decide (w = -1)
  | .branch e x y, w => decide (0 ≤ w ∧ w < 13) && inIn 64 w.toNat (dec e) && inIn 65 w.toNat (lkIn 65 w.toNat) && inIn 66 w.toNat (lkIn 66 w.toNat) && niChk x (lkIn 65 w.toNat) && niChk y (lkIn 66 w.toNat)
theorem ni_init {s : aZ} (hz : ∀ k j v, (k, j, v) ∈ aInL → zz s k j = v) : ∀ (C : aT) (w : Int), niChk C w = true → NI 64 65 66 s 0 13 C w := by
  intro C
  induction C with
  | leaf q => intro w h; exact (show w = -1 from of_decide_eq_true (show decide (w = -1) = true from h))
  | branch e x y ihx ihy =>
    intro w h
    have h' : (decide (0 ≤ w ∧ w < 13) && inIn 64 w.toNat (dec e) && inIn 65 w.toNat (lkIn 65 w.toNat) && inIn 66 w.toNat (lkIn 66 w.toNat) && niChk x (lkIn 65 w.toNat) && niChk y (lkIn 66 w.toNat)) = true := h
    rw [Bool.and_eq_true, Bool.and_eq_true, Bool.and_eq_true, Bool.and_eq_true, Bool.and_eq_true] at h'
    obtain ⟨⟨⟨⟨⟨a1, a2⟩, a3⟩, a4⟩, a5⟩, a6⟩ := h'
    have b1 := of_decide_eq_true a1
    refine ⟨⟨by omega, by omega⟩, hz _ _ _ (inIn_mem a2), ?_, ?_⟩
    · rw [hz _ _ _ (inIn_mem a3)]; exact ihx _ a5
    · rw [hz _ _ _ (inIn_mem a4)]; exact ihy _ a6
def mcChk : Bool := inIn 56 3 12 && inIn 56 17 13 && (List.range 12).all (fun c => inIn 59 c (lkIn 59 c) && niChk (ct0.getD c cNo) (lkIn 59 c)) && (List.range 4).all (fun k => inIn 60 (k + 25) (fd cn0 (opN ((k + 19 : Nat) : Int)) 12)) && inIn 60 20 0 && inIn 60 21 6 && inIn 60 22 5 && inIn 60 23 4 && inIn 60 24 0
set_option maxRecDepth 100000 in
theorem mc_chk : mcChk = true := by decide +kernel
def mlChk : Bool := (List.range 112).all (fun c => lnChk 58 c (if c < 12 then wdN (cn0.getD c []) else []))
set_option maxRecDepth 100000 in
theorem ml_chk : mlChk = true := by decide +kernel
theorem mco_init {s : aZ} {l : aZL} (hz : ∀ k j v, (k, j, v) ∈ aInL → zz s k j = v) (hl : ∀ k j v, (k, j, v) ∈ aLnL → (l k j).toInt = v) : MCo cn0 ct0 13 s l := by
  have h := mc_chk
  have g := ml_chk
  unfold mcChk at h
  unfold mlChk at g
  rw [List.all_eq_true] at g
  rw [Bool.and_eq_true, Bool.and_eq_true, Bool.and_eq_true, Bool.and_eq_true, Bool.and_eq_true, Bool.and_eq_true, Bool.and_eq_true, Bool.and_eq_true, List.all_eq_true, List.all_eq_true] at h
  obtain ⟨⟨⟨⟨⟨⟨⟨⟨a1, a2⟩, a3⟩, a4⟩, b0⟩, b1⟩, b2⟩, b3⟩, b4⟩ := h
  refine ⟨hz _ _ _ (inIn_mem a1), by decide, rfl, hz _ _ _ (inIn_mem a2), by decide, ?_, fun c hc => ⟨?_, ?_⟩, fun k h1 h2 => ?_, ⟨hz _ _ _ (inIn_mem b0), hz _ _ _ (inIn_mem b1), hz _ _ _ (inIn_mem b2), hz _ _ _ (inIn_mem b3), hz _ _ _ (inIn_mem b4)⟩, fun c h1 h2 => ?_, fun c hc => ?_⟩
  · intro i j hij hj
    have hj4 : j < 12 := hj
    have hall : (List.range 12).all (fun i => (List.range 12).all (fun j => decide (i < j → cn0.getD i [] ≠ cn0.getD j []))) = true := by decide
    rw [List.all_eq_true] at hall
    have h1 := hall i (List.mem_range.mpr (by omega))
    rw [List.all_eq_true] at h1
    exact of_decide_eq_true (h1 j (List.mem_range.mpr hj4)) hij
  · have hc' : c < 12 := hc
    have hall : (List.range 12).all (fun i => decide ((wdN (cn0.getD i [])).length ≤ 24) && (wdN (cn0.getD i [])).all (fun c => decide (1 ≤ c ∧ c < 128))) = true := by decide
    rw [List.all_eq_true] at hall
    have h1 := hall c (List.mem_range.mpr hc')
    rw [Bool.and_eq_true, List.all_eq_true] at h1
    exact ⟨of_decide_eq_true h1.1, fun x hx => of_decide_eq_true (h1.2 x hx)⟩
  · have hc' : c < 12 := hc
    have h1 := g c (List.mem_range.mpr (by omega))
    rw [if_pos hc'] at h1
    exact ln_init hl h1
  · have h3 := hz _ _ _ (inIn_mem (a4 (k - 19) (List.mem_range.mpr (by omega))))
    rw [show k - 19 + 25 = k + 6 by omega, show k - 19 + 19 = k by omega] at h3
    exact h3
  · have h1' : 12 ≤ c := h1
    have h3 := g c (List.mem_range.mpr h2)
    rw [if_neg (by omega)] at h3
    exact ln_init hl h3
  · have h3 := a3 c (List.mem_range.mpr hc)
    rw [Bool.and_eq_true] at h3
    rw [hz _ _ _ (inIn_mem h3.1)]
    exact ni_init hz _ _ h3.2
theorem wf_v {N : Nat} {ta : List Int} : wfC N ta c0A := ⟨Or.inl ⟨by decide, by decide, rfl, rfl⟩, Nat.le_refl _, trivial, trivial⟩
theorem wf_n (c : Int) (hc : 0 ≤ c ∧ c < 4) (h0 : ta0.getD c.toNat 0 = 0) : wfC 4 ta0 (.branch (enc c) cNo cNo) := by
  have e := dec_enc (c := c) (by omega)
  refine ⟨Or.inr ⟨by rw [e]; exact hc.1, by rw [e]; exact hc.2, by rw [e]; exact h0⟩, Nat.le_refl _, trivial, trivial⟩
theorem wf_f {x y : aT} (hx : wfC 4 ta0 x) (hy : wfC 4 ta0 y) (bx : isB x = 1) (yb : isB y = 1) : wfC 4 ta0 (c0F x y) := by
  refine ⟨Or.inr ⟨by decide, by decide, ?_⟩, by omega, hx, hy⟩
  rw [bx, yb]
  rfl
theorem wf_init : ∀ c, c < cn0.length → wfC tn0.length ta0 (ct0.getD c cNo) := by
  intro c hc
  have hc' : c < 12 := hc
  have b : wfC 4 ta0 c0B := wf_n 0 (by decide) rfl
  have m : wfC 4 ta0 c0N := wf_n 3 (by decide) rfl
  have a : wfC 4 ta0 c0A := wf_v
  match c, hc' with
  | 0, _ => exact wf_f a (wf_f a b rfl rfl) rfl rfl
  | 1, _ => exact b
  | 2, _ => exact b
  | 3, _ => exact wf_f b b rfl rfl
  | 4, _ => exact wf_f b (wf_f b b rfl rfl) rfl rfl
  | 5, _ => exact wf_f b (wf_f b b rfl rfl) rfl rfl
  | 6, _ => exact wf_f b (wf_f b b rfl rfl) rfl rfl
  | 7, _ => exact wf_f (wf_f a b rfl rfl) b rfl rfl
  | 8, _ => exact wf_f (wf_f a b rfl rfl) b rfl rfl
  | 9, _ => exact wf_f (wf_f a b rfl rfl) a rfl rfl
  | 10, _ => exact m
  | 11, _ => exact wf_f m m rfl rfl
  | c + 12, h => omega
theorem wfC.mono {N N2 : Nat} {ta ta2 : List Int} (hN : N ≤ N2) (ht : ∀ j, j < N → ta2.getD j 0 = ta.getD j 0) : ∀ C : aT, wfC N ta C → wfC N2 ta2 C := by
  intro C
  induction C with
  | leaf _ => intro _; trivial
  | branch e x y ihx ihy =>
    intro h
    obtain ⟨h1, h2, h3, h4⟩ := h
    refine ⟨?_, h2, ihx h3, ihy h4⟩
    rcases h1 with c | ⟨c1, c2, c3⟩
    · exact Or.inl c
    · exact Or.inr ⟨c1, by omega, by rw [ht _ (by omega)]; exact c3⟩
