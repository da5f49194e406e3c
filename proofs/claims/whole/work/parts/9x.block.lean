/-! NEW NODES IN A POOL -/
/-- chains with new nodes from P0 on -/
def rtB (P0 : Nat) (rt : Nat → Nat) (k : Nat) : Nat := if k < P0 then rt k else k
def uB (P0 : Nat) (u : Nat → Nat) (k : Nat) : Nat := if k < P0 then u k else 0
theorem nR_blk {A A2 : aPl} {P0 : Nat} (h1 : ∀ k, k < P0 → A2.1 k = A.1 k) : ∀ m, (∀ k, P0 ≤ k → k < P0 + m → A2.1 k = k) → nR (P0 + m) A2 = nR P0 A + m := by
  have hc : nR P0 A2 = nR P0 A := by
    unfold nR
    refine List.countP_congr (fun k hk => ?_)
    rw [h1 k (List.mem_range.mp hk)]
  intro m
  induction m with
  | zero => intro _; exact hc
  | succ m ih =>
    intro h2
    have i := ih (fun k g1 g2 => h2 k g1 (by omega))
    unfold nR at i ⊢
    rw [show P0 + (m + 1) = P0 + m + 1 by omega, List.range_succ, List.countP_append, i, List.countP_singleton, decide_eq_true (h2 (P0 + m) (by omega) (by omega))]
    simp
    omega
theorem Uf.blk {A A2 : aPl} {P0 P2 : Nat} {rt u : Nat → Nat} (hU : Uf P0 A rt u) (h0 : 0 < P0) (hP : P0 ≤ P2) (h1 : ∀ k, k < P0 → A2.1 k = A.1 k) (h2 : ∀ k, P0 ≤ k → k < P2 → A2.1 k = k) : Uf P2 A2 (rtB P0 rt) (uB P0 u) := by
  obtain ⟨m, em⟩ : ∃ m, P2 = P0 + m := ⟨P2 - P0, by omega⟩
  subst em
  have hn := nR_blk h1 m h2
  have hle : nR P0 A ≤ P0 := by have := (hU 0 h0).2.2.2.2.2.2; omega
  intro k hk
  rw [hn]
  by_cases e : k < P0
  · obtain ⟨a1, a2, a3, a4, a5, a6, a7⟩ := hU k e
    have r1 : rtB P0 rt k = rt k := if_pos e
    have r2 : uB P0 u k = u k := if_pos e
    have r3 : rtB P0 rt (A.1 k) = rt (A.1 k) := if_pos a1
    have r4 : uB P0 u (A.1 k) = u (A.1 k) := if_pos a1
    rw [r1, r2, h1 k e, r3, r4, h1 (rt k) a2]
    exact ⟨by omega, by omega, a3, a4, a5, a6, by omega⟩
  · have r1 : rtB P0 rt k = k := if_neg e
    have r2 : uB P0 u k = 0 := if_neg e
    have r3 := h2 k (by omega) hk
    rw [r3, r1, r2]
    exact ⟨hk, hk, r3, rfl, fun _ => ⟨rfl, rfl⟩, fun c => absurd rfl c, by omega⟩
/-- values for new nodes -/
def exV (un : Int) (A : aPl) (P0 : Nat) (v f : Nat → aT) : Nat → Nat → aT
  | 0, k => if k < P0 then v k else f k
  | N + 1, k => if k < P0 then v k else if A.2.1 k = un then f k else .branch (enc (A.2.1 k)) (ptT (exV un A P0 v f N) (A.2.2.1 k)) (ptT (exV un A P0 v f N) (A.2.2.2 k))
theorem exV_s (un : Int) (A : aPl) (P0 : Nat) (v f : Nat → aT) (N k : Nat) : exV un A P0 v f (N + 1) k = if k < P0 then v k else if A.2.1 k = un then f k else .branch (enc (A.2.1 k)) (ptT (exV un A P0 v f N) (A.2.2.1 k)) (ptT (exV un A P0 v f N) (A.2.2.2 k)) := rfl
theorem exV_old (un : Int) (A : aPl) (P0 : Nat) (v f : Nat → aT) (N k : Nat) (h : k < P0) : exV un A P0 v f N k = v k := by
  cases N with
  | zero => exact if_pos h
  | succ N => rw [exV_s, if_pos h]
theorem exV_st {un : Int} {A : aPl} {P0 P2 : Nat} {v f : Nat → aT} (hd : ∀ k, P0 ≤ k → k < P2 → A.2.2.1 k < k ∧ A.2.2.2 k < k) : ∀ N M k, k < P2 → k < N → k < M → exV un A P0 v f N k = exV un A P0 v f M k := by
  intro N
  induction N with
  | zero => intro M k _ h; omega
  | succ N ih =>
    intro M k hk h1 h2
    cases M with
    | zero => omega
    | succ M =>
      rw [exV_s, exV_s]
      by_cases e : k < P0
      · rw [if_pos e, if_pos e]
      · rw [if_neg e, if_neg e]
        by_cases c : A.2.1 k = un
        · rw [if_pos c, if_pos c]
        · obtain ⟨d1, d2⟩ := hd k (by omega) hk
          have p : ∀ x : Int, x < k → ptT (exV un A P0 v f N) x = ptT (exV un A P0 v f M) x := fun x hx => by
            by_cases q : x < 0
            · rw [ptT_n _ _ q, ptT_n _ _ q]
            · rw [ptT_p _ _ (by omega), ptT_p _ _ (by omega)]
              exact ih M x.toNat (by omega) (by omega) (by omega)
          rw [if_neg c, if_neg c, p _ d1, p _ d2]
/-- old valuations go on, new unknown nodes as one likes -/
theorem Vl.ext {un : Int} {A A2 : aPl} {P0 P2 : Nat} {v : Nat → aT} (hV : Vl un P0 A v) (f : Nat → aT) (hP : P0 ≤ P2) (hR : RgP P0 A) (hU1 : ∀ k, k < P0 → A.1 k < P0) (h1 : ∀ k, k < P0 → A2.1 k = A.1 k ∧ A2.2.1 k = A.2.1 k ∧ A2.2.2.1 k = A.2.2.1 k ∧ A2.2.2.2 k = A.2.2.2 k) (h2 : ∀ k, P0 ≤ k → k < P2 → A2.1 k = k ∧ A2.2.2.1 k < k ∧ A2.2.2.2 k < k) : ∃ v2, Vl un P2 A2 v2 ∧ (∀ k, k < P0 → v2 k = v k) ∧ ∀ k, P0 ≤ k → k < P2 → A2.2.1 k = un → v2 k = f k := by
  have hd : ∀ k, P0 ≤ k → k < P2 → A2.2.2.1 k < k ∧ A2.2.2.2 k < k := fun k a b => (h2 k a b).2
  refine ⟨fun k => exV un A2 P0 v f (k + 1) k, fun k hk => ?_, fun k hk => exV_old _ _ _ _ _ _ _ hk, fun k g1 g2 g3 => ?_⟩
  · by_cases e : k < P0
    · obtain ⟨a1, a2, a3, a4⟩ := h1 k e
      obtain ⟨b1, b2⟩ := hV k e
      obtain ⟨r1, r2, -⟩ := hR k e
      have p : ∀ x : Int, -1 ≤ x → x < P0 → ptT (fun k => exV un A2 P0 v f (k + 1) k) x = ptT v x := fun x q1 q2 => by
        by_cases q : x < 0
        · rw [ptT_n _ _ q, ptT_n _ _ q]
        · rw [ptT_p _ _ (by omega), ptT_p _ _ (by omega)]
          exact exV_old _ _ _ _ _ _ _ (by omega)
      rw [a1, a2, a3, a4, p _ r1.1 r1.2, p _ r2.1 r2.2]
      show exV un A2 P0 v f (k + 1) k = exV un A2 P0 v f (A.1 k + 1) (A.1 k) ∧ (A.2.1 k ≠ un → exV un A2 P0 v f (k + 1) k = _)
      rw [exV_old _ _ _ _ _ _ _ e, exV_old _ _ _ _ _ _ _ (hU1 k e)]
      exact ⟨b1, b2⟩
    · obtain ⟨a1, a2, a3⟩ := h2 k (by omega) hk
      refine ⟨by rw [a1], fun c => ?_⟩
      have p : ∀ x : Int, x < k → ptT (exV un A2 P0 v f k) x = ptT (fun k => exV un A2 P0 v f (k + 1) k) x := fun x hx => by
        by_cases q : x < 0
        · rw [ptT_n _ _ q, ptT_n _ _ q]
        · rw [ptT_p _ _ (by omega), ptT_p _ _ (by omega)]
          exact exV_st hd k (x.toNat + 1) x.toNat (by omega) (by omega) (by omega)
      show exV un A2 P0 v f (k + 1) k = _
      rw [exV_s, if_neg e, if_neg c, p _ a2, p _ a3]
  · show exV un A2 P0 v f (k + 1) k = f k
    rw [exV_s, if_neg (by omega), if_pos g3]
theorem Vl.cut {un : Int} {A A2 : aPl} {P0 P2 : Nat} {v : Nat → aT} (hV : Vl un P2 A2 v) (hP : P0 ≤ P2) (h1 : ∀ k, k < P0 → A2.1 k = A.1 k ∧ A2.2.1 k = A.2.1 k ∧ A2.2.2.1 k = A.2.2.1 k ∧ A2.2.2.2 k = A.2.2.2 k) : Vl un P0 A v := fun k hk => by
  obtain ⟨a1, a2, a3, a4⟩ := h1 k hk
  have := hV k (by omega)
  rw [a1, a2, a3, a4] at this
  exact this
/-- the pool at rest with new nodes -/
theorem PE.blk {ta : List Int} {P0 P2 : Nat} {s s2 : aZ} {rt u : Nat → Nat} (h : PE (arT ta) P0 s rt u) (hP : P0 ≤ P2) (hS : PS P2 s2) (hf : PFr P0 s s2) (hN : NwO ta P0 P2 s2) : PE (arT ta) P2 s2 (rtB P0 rt) (uB P0 u) ∧ (∀ v, Vl unX P2 (vwX s2) v → Vl unX P0 (vwX s) v) ∧ ∀ v, Vl unX P0 (vwX s) v → ∀ f : Nat → aT, ∃ v2, Vl unX P2 (vwX s2) v2 ∧ (∀ k, k < P0 → v2 k = v k) ∧ ∀ k, P0 ≤ k → k < P2 → zz s2 18 k = unX → v2 k = f k := by
  obtain ⟨h1, h2, h3, h4⟩ := h
  have z : ∀ k j, 18 ≤ k → k ≤ 21 → j < P0 → zz s2 k j = zz s k j := fun k j g1 g2 g3 => hf k g1 (by omega) j g3
  have e1 : ∀ k, k < P0 → (vwX s2).1 k = (vwX s).1 k ∧ (vwX s2).2.1 k = (vwX s).2.1 k ∧ (vwX s2).2.2.1 k = (vwX s).2.2.1 k ∧ (vwX s2).2.2.2 k = (vwX s).2.2.2 k := fun k hk => ⟨by show (zz s2 21 k).toNat = (zz s 21 k).toNat; rw [z 21 k (by decide) (by decide) hk], z 18 k (by decide) (by decide) hk, z 19 k (by decide) (by decide) hk, z 20 k (by decide) (by decide) hk⟩
  have e2 : ∀ k, P0 ≤ k → k < P2 → (vwX s2).1 k = k ∧ (vwX s2).2.2.1 k < k ∧ (vwX s2).2.2.2 k < k := fun k g1 g2 => by
    obtain ⟨n1, n2, n3, n4⟩ := hN k g1 g2
    exact ⟨by show (zz s2 21 k).toNat = k; rw [n1, natc], n2, n3⟩
  have hU1 : ∀ k, k < P0 → (vwX s).1 k < P0 := fun k hk => (h2 k hk).1
  refine ⟨⟨hS, h2.blk h1.1 hP (fun k hk => (e1 k hk).1) (fun k a b => (e2 k a b).1), ⟨fun k hk => ?_, fun k hk => ?_⟩, fun k hk hc => ?_⟩, fun v hv => hv.cut hP e1, fun v hv f => hv.ext f hP h3.1 hU1 e1 e2⟩
  · refine ⟨(hS.2.2.2 k hk).1, (hS.2.2.2 k hk).2.1, ?_⟩
    by_cases e : k < P0
    · rw [(e1 k e).2.1]; exact (h3.1 k e).2.2
    · have n4 := (hN k (by omega) hk).2.2.2.1
      show -2000000 ≤ zz s2 18 k
      omega
  · by_cases e : k < P0
    · obtain ⟨a1, a2, a3, a4⟩ := e1 k e
      rw [a2, a3, a4]
      exact h3.2 k e
    · exact (hN k (by omega) hk).2.2.2.2
  · by_cases e : k < P0
    · obtain ⟨a1, a2, a3, a4⟩ := e1 k e
      have hr := (h2 k e).2.1
      obtain ⟨b1, b2, b3, b4⟩ := e1 (rt k) hr
      rw [show rtB P0 rt k = rt k from if_pos e, a2, b2, a3, a4, b3, b4]
      rw [a2] at hc
      obtain ⟨c1, c2, c3⟩ := h4 k e hc
      obtain ⟨g1, g2, -⟩ := h3.1 k e
      obtain ⟨k1, k2, -⟩ := h3.1 (rt k) hr
      have p : ∀ x : Int, -1 ≤ x → x < P0 → prt (rtB P0 rt) x = prt rt x := fun x q1 q2 => by
        unfold prt
        by_cases q : x < 0
        · rw [if_pos q, if_pos q]
        · rw [if_neg q, if_neg q, show rtB P0 rt x.toNat = rt x.toNat from if_pos (by omega)]
      rw [p _ g1.1 g1.2, p _ g2.1 g2.2, p _ k1.1 k1.2, p _ k2.1 k2.2]
      exact ⟨c1, c2, c3⟩
    · rw [show rtB P0 rt k = k from if_neg e]
      exact ⟨rfl, rfl, rfl⟩
