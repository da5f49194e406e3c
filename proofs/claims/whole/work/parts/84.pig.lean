/-! FEW NAMES ARE OF ONE LETTER -/
theorem pig (a : Int) : ∀ (m : Nat) (l : List Int), l.Nodup → (∀ x ∈ l, a ≤ x ∧ x < a + m) → l.length ≤ m := by
  intro m
  induction m with
  | zero =>
    intro l _ h
    cases l with
    | nil => exact Nat.le_refl _
    | cons x l =>
      have := h x List.mem_cons_self
      omega
  | succ m ih =>
    intro l hn h
    by_cases hm : a + m ∈ l
    · have h1 := ih (l.erase (a + m)) (hn.erase _) (fun x hx => by
        have h2 := (hn.mem_erase_iff).mp hx
        have h3 := h x h2.2
        have h4 : x ≠ a + m := h2.1
        omega)
      rw [List.length_erase_of_mem hm] at h1
      omega
    · have h1 := ih l hn (fun x hx => by
        have h3 := h x hx
        have h4 : x ≠ a + m := fun e => hm (e ▸ hx)
        omega)
      omega
def isOne (nm : List Int) : Bool := nm.length == 1
theorem sum_ge : ∀ l : List (List Int), (∀ nm ∈ l, 1 ≤ nm.length) → 4 * l.length ≤ tot l + 2 * l.length + (l.filter isOne).length := by
  intro l
  induction l with
  | nil => intro _; exact Nat.le_refl _
  | cons nm l ih =>
    intro h
    have h1 := ih (fun x hx => h x (List.mem_cons_of_mem _ hx))
    have h2 := h nm List.mem_cons_self
    have h3 : tot (nm :: l) = nm.length + tot l := by unfold tot; simp
    rw [h3, List.length_cons, List.filter_cons]
    by_cases h4 : isOne nm = true
    · rw [if_pos h4, List.length_cons]
      omega
    · rw [if_neg h4]
      have : nm.length ≠ 1 := fun e => h4 (by unfold isOne; rw [e]; rfl)
      omega
/-- names that begin with a letter -/
def LtN (nm : List Int) : Prop := 1 ≤ nm.length ∧ 65 ≤ nm.getD 0 0 ∧ nm.getD 0 0 ≤ 122
theorem few {ns : List (List Int)} (hd : ∀ i j, i < j → j < ns.length → ns.getD i [] ≠ ns.getD j []) (hl : ∀ nm ∈ ns, LtN nm) : 4 * ns.length ≤ Uc ns + 58 := by
  have hn : ns.Pairwise (fun a b => a ≠ b) := by
    rw [List.pairwise_iff_getElem]
    intro i j hi hj hij
    have := hd i j hij hj
    rw [List.getD_eq_getElem?_getD, List.getD_eq_getElem?_getD, List.getElem?_eq_getElem hi, List.getElem?_eq_getElem hj] at this
    exact this
  have hf : (ns.filter isOne).Pairwise (fun a b => a.getD 0 0 ≠ b.getD 0 0) := by
    refine List.Pairwise.imp_of_mem ?_ (hn.filter isOne)
    intro a b ha hb hab e
    have ha1 := (List.mem_filter.mp ha).2
    have hb1 := (List.mem_filter.mp hb).2
    unfold isOne at ha1 hb1
    rw [beq_iff_eq] at ha1 hb1
    obtain ⟨x, rfl⟩ := List.length_eq_one_iff.mp ha1
    obtain ⟨y, rfl⟩ := List.length_eq_one_iff.mp hb1
    have e2 : x = y := e
    exact hab (by rw [e2])
  have hm : ((ns.filter isOne).map (fun nm => nm.getD 0 0)).Nodup := by
    unfold List.Nodup
    rw [List.pairwise_map]
    exact hf
  have h58 := pig 65 58 _ hm (fun x hx => by
    rw [List.mem_map] at hx
    obtain ⟨nm, h1, rfl⟩ := hx
    have := hl nm (List.mem_filter.mp h1).1
    exact ⟨this.2.1, by have := this.2.2; omega⟩)
  rw [List.length_map] at h58
  have := sum_ge ns (fun nm h => (hl nm h).1)
  unfold Uc
  omega
theorem caps {ns : List (List Int)} (hd : ∀ i j, i < j → j < ns.length → ns.getD i [] ≠ ns.getD j []) (hl : ∀ nm ∈ ns, LtN nm ∧ nm.length ≤ 24) (hU : Uc ns ≤ 10221) : ns.length < 3000 ∧ tot ns + 24 ≤ 10240 := by
  have h1 := few hd (fun nm h => (hl nm h).1)
  refine ⟨by omega, ?_⟩
  have h2 : tot ns ≤ 24 * ns.length := by
    have key : ∀ l : List (List Int), (∀ nm ∈ l, nm.length ≤ 24) → tot l ≤ 24 * l.length := by
      intro l
      induction l with
      | nil => intro _; exact Nat.le_refl _
      | cons nm l ih =>
        intro h
        have := ih (fun x hx => h x (List.mem_cons_of_mem _ hx))
        have h2 := h nm List.mem_cons_self
        have h3 : tot (nm :: l) = nm.length + tot l := by unfold tot; simp
        rw [h3, List.length_cons]
        omega
    exact key ns (fun nm h => (hl nm h).2)
  unfold Uc at hU
  omega
