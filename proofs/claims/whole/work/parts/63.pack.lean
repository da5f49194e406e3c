/-! WORDS IN THREE LONGS, one to one -/
def lt7 (c : Int) (k : Nat) : Int64 := ((Int32.ofInt c).toInt64) <<< ((Int32.ofInt (7 * ((k : Int) % 9))).toInt64 &&& 63)
def pkA (f : Nat → Int) (q : Nat) : Nat → Int64
  | 0 => 0
  | k + 1 => if k / 9 = q then pkA f q k ||| lt7 (f k) k else pkA f q k
def pn (f : Nat → Int) (q : Nat) : Nat → Nat
  | 0 => 0
  | k + 1 => if k / 9 = q then pn f q k + (f k).toNat * 128 ^ (k % 9) else pn f q k
theorem pn_s (f : Nat → Int) (q k : Nat) : pn f q (k + 1) = if k / 9 = q then pn f q k + (f k).toNat * 128 ^ (k % 9) else pn f q k := rfl
theorem sh7 : ∀ r : Nat, r < 9 → ∀ x : Int64, (x <<< ((Int32.ofInt (7 * ((r : Nat) : Int))).toInt64 &&& 63)).toBitVec = x.toBitVec <<< (7 * r) := by
  intro r hr x
  match r, hr with
  | 0, _ => rfl
  | 1, _ => rfl
  | 2, _ => rfl
  | 3, _ => rfl
  | 4, _ => rfl
  | 5, _ => rfl
  | 6, _ => rfl
  | 7, _ => rfl
  | 8, _ => rfl
theorem c64 {c : Int} (hc : 0 ≤ c ∧ c < 128) : (Int32.ofInt c).toInt64.toBitVec.toNat = c.toNat := by
  have h1 : (Int32.ofInt c).toInt64.toInt = c := by rw [Int32.toInt_toInt64, toI ⟨by omega, by omega⟩]
  have h2 : (Int32.ofInt c).toInt64.toBitVec.toInt = c := h1
  rw [BitVec.toInt_eq_toNat_cond] at h2
  split at h2
  · omega
  · have := (Int32.ofInt c).toInt64.toBitVec.isLt
    omega
theorem lt7_nat {c : Int} (hc : 0 ≤ c ∧ c < 128) (k : Nat) : (lt7 c k).toBitVec.toNat = c.toNat * 128 ^ (k % 9) := by
  unfold lt7
  have hk : k % 9 < 9 := Nat.mod_lt _ (by decide)
  rw [show ((k : Int) % 9) = ((k % 9 : Nat) : Int) by omega, sh7 (k % 9) hk, BitVec.toNat_shiftLeft, c64 hc, Nat.shiftLeft_eq]
  have e : 2 ^ (7 * (k % 9)) = 128 ^ (k % 9) := by rw [Nat.pow_mul]
  rw [e, Nat.mod_eq_of_lt]
  have h1 : 128 ^ (k % 9) ≤ 128 ^ 8 := Nat.pow_le_pow_right (by decide) (by omega)
  calc c.toNat * 128 ^ (k % 9) ≤ 127 * 128 ^ 8 := Nat.mul_le_mul (by omega) h1
    _ < 2 ^ 64 := by decide
/-- below its own letters a long is small -/
theorem pn_lt {f : Nat → Int} (hf : ∀ j, 0 ≤ f j ∧ f j < 128) (q : Nat) : ∀ k, pn f q k < 128 ^ (min (k - 9 * q) 9) := by
  intro k
  induction k with
  | zero => unfold pn; exact Nat.pos_of_ne_zero (by simp)
  | succ k ih =>
    unfold pn
    split
    · rename_i h
      have h1 : k % 9 = k - 9 * q := by omega
      have h2 : min (k + 1 - 9 * q) 9 = (k - 9 * q) + 1 := by omega
      have h3 : min (k - 9 * q) 9 = k - 9 * q := by omega
      rw [h3] at ih
      rw [h1, h2, Nat.pow_succ]
      have h4 : (f k).toNat ≤ 127 := by have := hf k; omega
      have h5 : (f k).toNat * 128 ^ (k - 9 * q) ≤ 127 * 128 ^ (k - 9 * q) := Nat.mul_le_mul_right _ h4
      omega
    · rename_i h
      have h6 : min (k - 9 * q) 9 ≤ min (k + 1 - 9 * q) 9 := by omega
      exact Nat.lt_of_lt_of_le ih (Nat.pow_le_pow_right (by decide) h6)
theorem pkA_nat {f : Nat → Int} (hf : ∀ j, 0 ≤ f j ∧ f j < 128) (q : Nat) : ∀ k, (pkA f q k).toBitVec.toNat = pn f q k := by
  intro k
  induction k with
  | zero => rfl
  | succ k ih =>
    unfold pkA pn
    split
    · rename_i h
      rw [Int64.toBitVec_or, BitVec.toNat_or, ih, lt7_nat (hf k)]
      have h1 : k % 9 = k - 9 * q := by omega
      have h3 : min (k - 9 * q) 9 = k - 9 * q := by omega
      have hlt := pn_lt hf q k
      rw [h3, ← h1] at hlt
      have e : 128 ^ (k % 9) = 2 ^ (7 * (k % 9)) := by rw [Nat.pow_mul]
      rw [e] at hlt ⊢
      rw [Nat.or_comm, ← Nat.shiftLeft_eq, ← Nat.shiftLeft_add_eq_or_of_lt hlt, Nat.add_comm]
    · exact ih
theorem pn_mod {f : Nat → Int} (hf : ∀ j, 0 ≤ f j ∧ f j < 128) (q : Nat) : ∀ i j, j + i ≤ 9 → pn f q (9 * q + j + i) % 128 ^ j = pn f q (9 * q + j) := by
  intro i
  induction i with
  | zero =>
    intro j hj
    have := pn_lt hf q (9 * q + j)
    rw [show min (9 * q + j - 9 * q) 9 = j by omega] at this
    exact Nat.mod_eq_of_lt this
  | succ i ih =>
    intro j hj
    rw [show 9 * q + j + (i + 1) = (9 * q + j + i) + 1 by omega, pn_s, if_pos (by omega), show (9 * q + j + i) % 9 = j + i by omega, Nat.pow_add, ← Nat.mul_assoc, Nat.mul_right_comm, Nat.add_mul_mod_self_right]
    exact ih j (by omega)
theorem pn_dig {f g : Nat → Int} (hf : ∀ j, 0 ≤ f j ∧ f j < 128) (hg : ∀ j, 0 ≤ g j ∧ g j < 128) (q : Nat) (h : pn f q (9 * q + 9) = pn g q (9 * q + 9)) (j : Nat) (hj : j < 9) : f (9 * q + j) = g (9 * q + j) := by
  have a1 := pn_mod hf q (9 - (j + 1)) (j + 1) (by omega)
  have b1 := pn_mod hg q (9 - (j + 1)) (j + 1) (by omega)
  have a0 := pn_mod hf q (9 - j) j (by omega)
  have b0 := pn_mod hg q (9 - j) j (by omega)
  rw [show 9 * q + (j + 1) + (9 - (j + 1)) = 9 * q + 9 by omega] at a1 b1
  rw [show 9 * q + j + (9 - j) = 9 * q + 9 by omega] at a0 b0
  rw [h] at a1 a0
  have e1 : pn f q (9 * q + (j + 1)) = pn g q (9 * q + (j + 1)) := by rw [← a1, b1]
  have e0 : pn f q (9 * q + j) = pn g q (9 * q + j) := by rw [← a0, b0]
  rw [show 9 * q + (j + 1) = (9 * q + j) + 1 by omega] at e1
  unfold pn at e1
  rw [if_pos (by omega), if_pos (by omega), e0] at e1
  have e2 : (f (9 * q + j)).toNat * 128 ^ ((9 * q + j) % 9) = (g (9 * q + j)).toNat * 128 ^ ((9 * q + j) % 9) := by omega
  have e3 := Nat.eq_of_mul_eq_mul_right (Nat.pos_of_ne_zero (by simp)) e2
  have := hf (9 * q + j)
  have := hg (9 * q + j)
  omega
/-- a name in three longs -/
def pkN (nm : List Int) (q : Nat) : Int64 := pkA (fun j => nm.getD j 0) q nm.length
def VN (nm : List Int) : Prop := nm.length ≤ 24 ∧ ∀ c ∈ nm, 1 ≤ c ∧ c < 128
theorem VN.get {nm : List Int} (h : VN nm) (j : Nat) : (0 ≤ nm.getD j 0 ∧ nm.getD j 0 < 128) ∧ (j < nm.length → 1 ≤ nm.getD j 0) ∧ (nm.length ≤ j → nm.getD j 0 = 0) := by
  rw [List.getD_eq_getElem?_getD]
  cases hk : nm[j]? with
  | none =>
    have := List.getElem?_eq_none_iff.mp hk
    exact ⟨by decide, fun h2 => absurd h2 (by omega), fun _ => rfl⟩
  | some c =>
    have hm := h.2 c (List.mem_of_getElem? hk)
    have hj := (List.getElem?_eq_some_iff.mp hk).1
    exact ⟨⟨by show 0 ≤ c; omega, by show c < 128; omega⟩, fun _ => hm.1, fun h2 => absurd hj (by omega)⟩
theorem pn_pad {f : Nat → Int} (q m : Nat) (h0 : ∀ j, m ≤ j → f j = 0) : ∀ i, pn f q (m + i) = pn f q m := by
  intro i
  induction i with
  | zero => rfl
  | succ i ih =>
    rw [show m + (i + 1) = (m + i) + 1 by omega, pn_s, h0 (m + i) (by omega), ih]
    split
    · simp
    · rfl
theorem pkN_inj {a b : List Int} (ha : VN a) (hb : VN b) (h : ∀ q, q < 3 → pkN a q = pkN b q) : a = b := by
  have fa := fun j => (ha.get j).1
  have fb := fun j => (hb.get j).1
  have key : ∀ k, k < 27 → a.getD k 0 = b.getD k 0 := by
    intro k hk
    have hq : k / 9 < 3 := by omega
    have h1 := congrArg (fun x => x.toBitVec.toNat) (h (k / 9) hq)
    have h2 : pn (fun j => a.getD j 0) (k / 9) a.length = pn (fun j => b.getD j 0) (k / 9) b.length := by
      have e1 := pkA_nat fa (k / 9) a.length
      have e2 := pkA_nat fb (k / 9) b.length
      unfold pkN at h1
      rw [e1, e2] at h1
      exact h1
    have p1 := pn_pad (f := fun j => a.getD j 0) (k / 9) a.length (fun j hj => (ha.get j).2.2 hj)
    have p2 := pn_pad (f := fun j => b.getD j 0) (k / 9) b.length (fun j hj => (hb.get j).2.2 hj)
    have l1 := ha.1
    have l2 := hb.1
    have c1 : ∀ (f : Nat → Int) (hf : ∀ j, 0 ≤ f j ∧ f j < 128) (m : Nat), (∀ j, m ≤ j → f j = 0) → m ≤ 24 → pn f (k / 9) (9 * (k / 9) + 9) = pn f (k / 9) m := by
      intro f hf m h0 hm
      by_cases hc : m ≤ 9 * (k / 9) + 9
      · have := pn_pad (k / 9) m h0 (9 * (k / 9) + 9 - m)
        rw [show m + (9 * (k / 9) + 9 - m) = 9 * (k / 9) + 9 by omega] at this
        exact this
      · have up : ∀ i, pn f (k / 9) (9 * (k / 9) + 9 + i) = pn f (k / 9) (9 * (k / 9) + 9) := by
          intro i
          induction i with
          | zero => rfl
          | succ i ih =>
            rw [show 9 * (k / 9) + 9 + (i + 1) = (9 * (k / 9) + 9 + i) + 1 by omega]
            rw [pn_s, if_neg (by omega)]
            exact ih
        have := up (m - (9 * (k / 9) + 9))
        rw [show 9 * (k / 9) + 9 + (m - (9 * (k / 9) + 9)) = m by omega] at this
        exact this.symm
    have d := pn_dig fa fb (k / 9) (by rw [c1 _ fa a.length (fun j hj => (ha.get j).2.2 hj) l1, c1 _ fb b.length (fun j hj => (hb.get j).2.2 hj) l2]; exact h2) (k % 9) (Nat.mod_lt _ (by decide))
    rw [show 9 * (k / 9) + k % 9 = k by omega] at d
    exact d
  have hl : a.length = b.length := by
    rcases Nat.lt_trichotomy a.length b.length with h1 | h1 | h1
    · have k1 := key a.length (by have := hb.1; omega)
      have k2 := (hb.get a.length).2.1 h1
      have k3 := (ha.get a.length).2.2 (Nat.le_refl _)
      omega
    · exact h1
    · have k1 := key b.length (by have := ha.1; omega)
      have k2 := (ha.get b.length).2.1 h1
      have k3 := (hb.get b.length).2.2 (Nat.le_refl _)
      omega
  apply List.ext_getElem? 
  intro i
  by_cases hi : i < a.length
  · have := key i (by have := ha.1; omega)
    rw [List.getD_eq_getElem?_getD, List.getD_eq_getElem?_getD, List.getElem?_eq_getElem hi, List.getElem?_eq_getElem (by omega)] at this
    rw [List.getElem?_eq_getElem hi, List.getElem?_eq_getElem (by omega)]
    exact congrArg some this
  · rw [List.getElem?_eq_none (by omega), List.getElem?_eq_none (by omega)]
