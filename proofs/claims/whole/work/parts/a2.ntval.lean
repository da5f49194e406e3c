/-! A CONSTANT'S TYPE WITH NEW UNKNOWN TYPES: its values are the instances of the row -/
/-- an instance of a coded type: its variables (codes below 0) by τ -/
def nsC (τ : Int → aT) : aT → aT
  | .leaf _ => cNo
  | .branch e x y => if dec e < 0 then τ (dec e) else .branch e (nsC τ x) (nsC τ y)
theorem nsC_v (τ : Int → aT) (e : Nat) (x y : aT) (h : dec e < 0) : nsC τ (.branch e x y) = τ (dec e) := if_pos h
theorem nsC_n (τ : Int → aT) (e : Nat) (x y : aT) (h : 0 ≤ dec e) : nsC τ (.branch e x y) = .branch e (nsC τ x) (nsC τ y) := if_neg (by omega)
theorem enc_dec {e : Nat} (h : -2000000 ≤ dec e) : enc (dec e) = e := by
  unfold enc dec
  unfold dec at h
  omega
section
variable {ta : List Int} {st : Nat} {R : Nat → Int} {P0 P : Nat} {s : aZ}
theorem nt_val {v : Nat → aT} {τ : Int → aT} (hv : Vl unX P (vwX s) v) : ∀ (C : aT) (p : Nat) (w : Int), RwC R C p → (∀ j, p ≤ j → j < p + (pre C).length → R j < 0 → τ (R j) = ptT v (zz s 34 (j - st))) → NVp st P0 P s C p w → ptT v w = nsC τ C := by
  intro C
  induction C with
  | leaf q =>
    intro p w _ _ h
    have h' : w = -1 := h
    subst h'
    exact ptT_n _ _ (by decide)
  | branch e x y ihx ihy =>
    intro p w hr ht h
    have hl := pre_len e x y
    obtain ⟨r0, rx, ry⟩ := hr.b
    obtain ⟨a1, a2, a3, a4⟩ := h
    by_cases hn : dec e < 0
    · rw [nsC_v _ _ _ _ hn, ← r0, ht p (Nat.le_refl _) (by omega) (by omega), a1]
    · obtain ⟨b1, b2, b3⟩ := a4 (by omega)
      have hx := ihx (p + 1) _ rx (fun j g1 g2 => ht j (by omega) (by omega)) b2
      have hy := ihy (p + 1 + (pre x).length) _ ry (fun j g1 g2 => ht j (by omega) (by omega)) b3
      rw [nsC_n _ _ _ _ (by omega), ← hx, ← hy, ptT_p _ _ (by omega)]
      have hk := (hv w.toNat (by omega)).2
      have e18 : (vwX s).2.1 w.toNat = dec e := b1
      rw [e18, enc_dec (by omega)] at hk
      exact hk (show dec e ≠ -1000000 by omega)
end
section
variable {ta : List Int} {C : aT} {c P0 P2 w : Nat} {s0 s2 : aZ} {rt u : Nat → Nat}
theorem XNt.val (h : XNt ta C c P0 s0 s2 w P2) (hr : P0 + 40 ≤ 17000) (hE : PE (arT ta) P0 s0 rt u) : PE (arT ta) P2 s2 (rtB P0 rt) (uB P0 u) ∧ (∀ v, Vl unX P2 (vwX s2) v → Vl unX P0 (vwX s0) v ∧ ∃ τ, v w = nsC τ C) ∧ ∀ v, Vl unX P0 (vwX s0) v → ∀ τ, ∃ v2, Vl unX P2 (vwX s2) v2 ∧ (∀ k, k < P0 → v2 k = v k) ∧ v2 w = nsC τ C := by
  obtain ⟨h1, h2, h3, h4, h5, h6, h7⟩ := h
  obtain ⟨r1, r2, r3, r4, r5, r6⟩ := h7 hr
  obtain ⟨b1, b2, b3⟩ := hE.blk h3 h2 r2 r3
  have pw : ∀ v : Nat → aT, ptT v (w : Int) = v w := fun v => by rw [ptT_p _ _ (by omega), natc]
  have row : RwC (fun j => (pre C).getD (j - 40 * c) 0) C (40 * c) := fun j hj => by
    show (pre C).getD (40 * c + j - 40 * c) 0 = _
    rw [show 40 * c + j - 40 * c = j by omega]
  refine ⟨b1, fun v hv => ⟨b2 v hv, fun z => ptT v (zz s2 34 (Classical.epsilon fun i => i < (pre C).length ∧ (pre C).getD i 0 = z ∧ z < 0)), ?_⟩, fun v hv τ => ?_⟩
  · rw [← pw v]
    refine nt_val (R := fun j => (pre C).getD (j - 40 * c) 0) hv C (40 * c) w row (fun j g1 g2 g3 => ?_) r4
    have g3' : (pre C).getD (j - 40 * c) 0 < 0 := g3
    have hx : ∃ i, i < (pre C).length ∧ (pre C).getD i 0 = (pre C).getD (j - 40 * c) 0 ∧ (pre C).getD (j - 40 * c) 0 < 0 := ⟨j - 40 * c, by omega, rfl, g3'⟩
    obtain ⟨c1, c2, c3⟩ := Classical.epsilon_spec hx
    have q := (r6 _ (j - 40 * c) c1 (by omega) (by omega) g3').mp c2
    exact congrArg (ptT v) q
  · obtain ⟨v2, d1, d2, d3⟩ := b3 v hv (fun k => τ ((pre C).getD (Classical.epsilon fun i => i < (pre C).length ∧ (pre C).getD i 0 < 0 ∧ zz s2 34 i = (k : Nat)) 0))
    refine ⟨v2, d1, d2, ?_⟩
    rw [← pw v2]
    refine nt_val (R := fun j => (pre C).getD (j - 40 * c) 0) d1 C (40 * c) w row (fun j g1 g2 g3 => ?_) r4
    have g3' : (pre C).getD (j - 40 * c) 0 < 0 := g3
    show τ ((pre C).getD (j - 40 * c) 0) = _
    obtain ⟨e1, e2, e3⟩ := r5 (j - 40 * c) (by omega) g3'
    rw [ptT_p _ _ (by omega), d3 _ (by omega) (by omega) e3]
    have hx : ∃ i, i < (pre C).length ∧ (pre C).getD i 0 < 0 ∧ zz s2 34 i = ((zz s2 34 (j - 40 * c)).toNat : Nat) := ⟨j - 40 * c, by omega, g3', by omega⟩
    obtain ⟨c1, c2, c3⟩ := Classical.epsilon_spec hx
    have q := (r6 _ (j - 40 * c) c1 (by omega) c2 g3').mpr (by omega)
    exact (congrArg τ q).symm
end
