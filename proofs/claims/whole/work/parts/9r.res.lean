/-! A CLOSED POOL WITHOUT CIRCLES: its valuations are the instances of what its nodes resolve to -/
/-- the end of a part's chain -/
def prt (rt : Nat → Nat) (x : Int) : Int := if x < 0 then -1 else (rt x.toNat : Nat)
/-- what is joined has joined parts -/
def ClP (un : Int) (P : Nat) (A : aPl) (rt : Nat → Nat) : Prop := ∀ k, k < P → A.2.1 k ≠ un → A.2.1 (rt k) = A.2.1 k ∧ prt rt (A.2.2.1 k) = prt rt (A.2.2.1 (rt k)) ∧ prt rt (A.2.2.2 k) = prt rt (A.2.2.2 (rt k))
def RgP (P : Nat) (A : aPl) : Prop := ∀ k, k < P → (-1 ≤ A.2.2.1 k ∧ A.2.2.1 k < P) ∧ (-1 ≤ A.2.2.2 k ∧ A.2.2.2 k < P) ∧ -2000000 ≤ A.2.1 k
/-- no circles: parts are lower -/
def AcP (un : Int) (P : Nat) (A : aPl) (rt h : Nat → Nat) : Prop := ∀ r, r < P → A.1 r = r → A.2.1 r ≠ un → (0 ≤ A.2.2.1 r → h (rt (A.2.2.1 r).toNat) < h r) ∧ (0 ≤ A.2.2.2 r → h (rt (A.2.2.2 r).toNat) < h r)
/-- what a part resolves to -/
def rsT (un : Int) (A : aPl) (rt : Nat → Nat) : Nat → Int → aT
  | 0, _ => cNo
  | N + 1, x => if x < 0 then cNo else if A.2.1 (rt x.toNat) = un then vrT (rt x.toNat) else .branch (enc (A.2.1 (rt x.toNat))) (rsT un A rt N (A.2.2.1 (rt x.toNat))) (rsT un A rt N (A.2.2.2 (rt x.toNat)))
theorem rsT_s (un : Int) (A : aPl) (rt : Nat → Nat) (N : Nat) (x : Int) : rsT un A rt (N + 1) x = if x < 0 then cNo else if A.2.1 (rt x.toNat) = un then vrT (rt x.toNat) else .branch (enc (A.2.1 (rt x.toNat))) (rsT un A rt N (A.2.2.1 (rt x.toNat))) (rsT un A rt N (A.2.2.2 (rt x.toNat))) := rfl
theorem rsT_n (un : Int) (A : aPl) (rt : Nat → Nat) (N : Nat) (x : Int) (h : x < 0) : rsT un A rt N x = cNo := by
  cases N with
  | zero => rfl
  | succ N => rw [rsT_s, if_pos h]
/-- the end of the chain decides -/
theorem rsT_rt (un : Int) (A : aPl) (rt : Nat → Nat) (N : Nat) (x y : Int) (hx : -1 ≤ x) (hy : -1 ≤ y) (h : prt rt x = prt rt y) : rsT un A rt N x = rsT un A rt N y := by
  unfold prt at h
  by_cases h1 : x < 0
  · rw [if_pos h1] at h
    by_cases h2 : y < 0
    · rw [rsT_n _ _ _ _ _ h1, rsT_n _ _ _ _ _ h2]
    · rw [if_neg h2] at h; omega
  · rw [if_neg h1] at h
    by_cases h2 : y < 0
    · rw [if_pos h2] at h; omega
    · rw [if_neg h2] at h
      cases N with
      | zero => rfl
      | succ N =>
        have e : rt x.toNat = rt y.toNat := by omega
        rw [rsT_s, rsT_s, if_neg h1, if_neg h2, e]
section
variable {un : Int} {P : Nat} {A : aPl} {rt u h : Nat → Nat}
theorem rsT_st (hU : Uf P A rt u) (hR : RgP P A) (hA : AcP un P A rt h) : ∀ (N M : Nat) (x : Int), -1 ≤ x → x < P → (0 ≤ x → h (rt x.toNat) < N ∧ h (rt x.toNat) < M) → rsT un A rt N x = rsT un A rt M x := by
  intro N
  induction N with
  | zero =>
    intro M x h1 h2 h3
    by_cases hx : x < 0
    · rw [rsT_n _ _ _ _ _ hx, rsT_n _ _ _ _ _ hx]
    · have := (h3 (by omega)).1; omega
  | succ N ih =>
    intro M x h1 h2 h3
    by_cases hx : x < 0
    · rw [rsT_n _ _ _ _ _ hx, rsT_n _ _ _ _ _ hx]
    · obtain ⟨a, b⟩ := h3 (by omega)
      cases M with
      | zero => omega
      | succ M =>
        rw [rsT_s, rsT_s, if_neg hx, if_neg hx]
        by_cases hc : A.2.1 (rt x.toNat) = un
        · rw [if_pos hc, if_pos hc]
        · obtain ⟨u1, u2, u3, -⟩ := hU x.toNat (by omega)
          obtain ⟨g1, g2⟩ := hA (rt x.toNat) u2 u3 hc
          obtain ⟨r1, r2, -⟩ := hR (rt x.toNat) u2
          rw [if_neg hc, if_neg hc, ih M _ r1.1 r1.2 (fun q => by have := g1 q; omega), ih M _ r2.1 r2.2 (fun q => by have := g2 q; omega)]
/-- each valuation is an instance -/
theorem Vl.inst (hU : Uf P A rt u) (hR : RgP P A) (hA : AcP un P A rt h) {v : Nat → aT} (hV : Vl un P A v) : ∀ (N : Nat) (x : Int), -1 ≤ x → x < P → (0 ≤ x → h (rt x.toNat) < N) → ptT v x = sbT v (rsT un A rt N x) := by
  intro N
  induction N with
  | zero =>
    intro x h1 h2 h3
    by_cases hx : x < 0
    · rw [ptT_n _ _ hx, rsT_n _ _ _ _ _ hx]; rfl
    · have := h3 (by omega); omega
  | succ N ih =>
    intro x h1 h2 h3
    by_cases hx : x < 0
    · rw [ptT_n _ _ hx, rsT_n _ _ _ _ _ hx]; rfl
    · have a := h3 (by omega)
      obtain ⟨u1, u2, u3, -⟩ := hU x.toNat (by omega)
      rw [ptT_p _ _ (by omega), hV.root hU x.toNat (by omega), rsT_s, if_neg hx]
      by_cases hc : A.2.1 (rt x.toNat) = un
      · rw [if_pos hc, sbT_v]
      · obtain ⟨g1, g2⟩ := hA (rt x.toNat) u2 u3 hc
        obtain ⟨r1, r2, -⟩ := hR (rt x.toNat) u2
        rw [if_neg hc, sbT_b, ← ih _ r1.1 r1.2 (fun q => by have := g1 q; omega), ← ih _ r2.1 r2.2 (fun q => by have := g2 q; omega)]
        exact (hV (rt x.toNat) u2).2 hc
/-- each instance is a valuation -/
theorem Vl.of (hU : Uf P A rt u) (hR : RgP P A) (hC : ClP un P A rt) (hA : AcP un P A rt h) (f : Nat → aT) : Vl un P A (fun k => sbT f (rsT un A rt (h (rt k) + 1) (k : Int))) := by
  intro k hk
  obtain ⟨u1, u2, u3, u4, u5, u6, u7⟩ := hU k hk
  refine ⟨?_, fun hc => ?_⟩
  · show sbT f (rsT un A rt (h (rt k) + 1) (k : Int)) = sbT f (rsT un A rt (h (rt (A.1 k)) + 1) ((A.1 k : Nat) : Int))
    rw [u4]
    rw [rsT_rt un A rt (h (rt k) + 1) (k : Int) ((A.1 k : Nat) : Int) (by omega) (by omega) (by unfold prt; rw [if_neg (by omega), if_neg (by omega), natc, natc, u4])]
  · obtain ⟨c1, c2, c3⟩ := hC k hk hc
    have hcr : A.2.1 (rt k) ≠ un := by rw [c1]; exact hc
    obtain ⟨g1, g2⟩ := hA (rt k) u2 u3 hcr
    obtain ⟨r1, r2, -⟩ := hR (rt k) u2
    obtain ⟨q1, q2, -⟩ := hR k hk
    have part : ∀ x y : Int, (-1 ≤ x ∧ x < P) → (-1 ≤ y ∧ y < P) → prt rt x = prt rt y → (0 ≤ y → h (rt y.toNat) < h (rt k)) → sbT f (rsT un A rt (h (rt k)) y) = ptT (fun k => sbT f (rsT un A rt (h (rt k) + 1) (k : Int))) x := by
      intro x y hx hy hxy hlt
      by_cases hx0 : x < 0
      · have hy0 : y < 0 := by
          unfold prt at hxy
          rw [if_pos hx0] at hxy
          by_cases hy0 : y < 0
          · exact hy0
          · rw [if_neg hy0] at hxy; omega
        rw [ptT_n _ _ hx0, rsT_n _ _ _ _ _ hy0]
        rfl
      · have hy0 : ¬ y < 0 := fun c => by
          unfold prt at hxy
          rw [if_neg hx0, if_pos c] at hxy
          omega
        have er : rt x.toNat = rt y.toNat := by
          unfold prt at hxy
          rw [if_neg hx0, if_neg hy0] at hxy
          omega
        have hl := hlt (by omega)
        rw [ptT_p _ _ (by omega)]
        show _ = sbT f (rsT un A rt (h (rt x.toNat) + 1) ((x.toNat : Nat) : Int))
        rw [show ((x.toNat : Nat) : Int) = x by omega, rsT_rt un A rt _ x y hx.1 hy.1 hxy, er, rsT_st hU hR hA (h (rt k)) (h (rt y.toNat) + 1) y hy.1 hy.2 (fun _ => ⟨hl, by omega⟩)]
    show sbT f (rsT un A rt (h (rt k) + 1) (k : Int)) = _
    rw [rsT_s, if_neg (by omega), natc, if_neg hcr, sbT_b, c1, part _ _ q1 r1 c2 g1, part _ _ q2 r2 c3 g2]
end
