/-! THE LAW'S LOOP, over what each pair of calls does -/
abbrev aZ : Type := Nat → Nat → Int32
abbrev aZL : Type := Nat → Nat → Int64
def a_Bd (i : Nat) (B : aH) : Prop := B.1 ≤ 106 + i ∧ B.2.1.1 ≤ 106 + i ∧ B.2.1.2 ≤ 1300001 + 6 * i
/-- what stands of the cells between two calls -/
def a_BI (L i : Nat) (xs : Nat → Int32) (B : aH) (s : aZ) : Prop := a_Can B ∧ B.2.2.1 aSc = (1000, L) ∧ s aSc = xs ∧ a_Bd i B
/-- a call of the reader by a helper, then the reference's: they agree, and Inv stands again -/
def a_J (d L i : Nat) (xs : Nat → Int32) (Inv : Nat → aH → aZ → aZL → Prop) (hx mx : Nat) (xa ma : List Value) (B : aH) (s : aZ) (l : aZL) : Prop :=
  a_W d hx 0 xa [] (mkH B s l) (fun r => ∃ (v : Int) (B2 : aH) (s2 : aZ) (l2 : aZL), r = (.inl (some (iv v)), mkH B2 s2 l2) ∧ a_BI L (i + 1) xs B2 s2 ∧ inR v ∧
    a_W d mx 0 ma [] (mkH B2 s2 l2) (fun r => ∃ (v2 : Int) (B3 : aH) (s3 : aZ) (l3 : aZL), r = (.inl (some (iv v2)), mkH B3 s3 l3) ∧ a_BI L (i + 1) xs B3 s3 ∧ zz s3 56 0 = v ∧ (v = 0 → l3 105 0 = (Int32.ofInt v2).toInt64) ∧ Inv (i + 1) B3 s3 l3))
def a_JF (d L i : Nat) (xs : Nat → Int32) (Inv : Nat → aH → aZ → aZL → Prop) (xa ma : List Value) (B : aH) (s : aZ) (l : aZL) : Prop :=
  a_W d 15 0 xa [] (mkH B s l) (fun r => ∃ (v : Int) (B2 : aH) (s2 : aZ) (l2 : aZL), r = (.inl (some (iv v)), mkH B2 s2 l2) ∧ a_BI L (i + 1) xs B2 s2 ∧ inR v ∧
    a_W d 142 0 ma [] (mkH B2 s2 l2) (fun r => ∃ (B3 : aH) (s3 : aZ) (l3 : aZL), r = (.inl (some (iv v)), mkH B3 s3 l3) ∧ a_BI L (i + 1) xs B3 s3 ∧ Inv (i + 1) B3 s3 l3))
theorem and7 (x : Int) : 0 ≤ (Int32.ofInt x &&& Int32.ofInt 7).toInt ∧ (Int32.ofInt x &&& Int32.ofInt 7).toInt ≤ 7 := by
  have h : ∀ b : BitVec 32, (b &&& 7#32).toInt = ((b &&& 7#32).toNat : Int) ∧ (b &&& 7#32).toNat ≤ 7 := by
    intro b
    have h1 : (b &&& 7#32).toNat ≤ 7 := by
      rw [BitVec.toNat_and]
      exact Nat.and_le_right
    refine ⟨?_, h1⟩
    rw [BitVec.toInt_eq_toNat_cond, if_pos (by omega)]
  have h2 := h (Int32.ofInt x).toBitVec
  have e : (Int32.ofInt x &&& Int32.ofInt 7).toInt = ((Int32.ofInt x).toBitVec &&& 7#32).toInt := rfl
  rw [e, h2.1]
  omega
theorem zz_of {s s' : aZ} {k : Nat} (h : s' k = s k) (j : Nat) : zz s' k j = zz s k j := by
  unfold zz
  rw [h]
theorem law_loop {d L : Nat} (hd : 1 ≤ d) (hL : L ≤ 3072) (xs : Nat → Int32) (Inv : Nat → aH → aZ → aZL → Prop)
    (hF : ∀ (i : Nat) (B : aH) (s : aZ) (l : aZL) (a b c e g : Int), 6 * i + 6 ≤ L → inR a → inR b → inR c → inR e → inR g → Inv i B s l → a_BI L i xs B s → a_JF (d - 1) L i xs Inv [.ref 0, iv a, iv b, iv c, iv e, iv g] [.ref 56, iv a, iv b, iv c, iv e, iv g, .retAddr 0, .retAddr 0] B s l)
    (hT : ∀ (i : Nat) (B : aH) (s : aZ) (l : aZL) (a : Int), 6 * i + 6 ≤ L → inR a → Inv i B s l → a_BI L i xs B s → a_J (d - 1) L i xs Inv 20 143 [.ref 0, iv a, .ref 105, .retAddr 0] [.ref 56, iv a, .retAddr 0, .retAddr 0] B s l)
    (hC : ∀ (i : Nat) (B : aH) (s : aZ) (l : aZL) (a : Int), 6 * i + 6 ≤ L → inR a → Inv i B s l → a_BI L i xs B s → a_J (d - 1) L i xs Inv 119 202 [.ref 0, iv a, .ref 105, .retAddr 0] [.ref 56, iv a, .retAddr 0, .retAddr 0, .retAddr 0, .retAddr 0] B s l)
    (hY : ∀ (i : Nat) (B : aH) (s : aZ) (l : aZL) (a : Int), 6 * i + 6 ≤ L → inR a → Inv i B s l → a_BI L i xs B s → a_J (d - 1) L i xs Inv 125 203 [.ref 0, iv a, .ref 105, .retAddr 0] [.ref 56, iv a, .retAddr 0] B s l)
    (hP : ∀ (i : Nat) (B : aH) (s : aZ) (l : aZL), 6 * i + 6 ≤ L → Inv i B s l → zz s 1 10 = zz s 56 22 ∧ zz s 1 11 = zz s 56 23 ∧ Inv (i + 1) B (zu s 56 0 0) l)
    (hS : ∀ (i : Nat) (B : aH) (s : aZ) (l : aZL) (a : Int), 6 * i + 6 ≤ L → inR a → Inv i B s l → a_BI L i xs B s → a_J (d - 1) L i xs Inv 130 206 [.ref 0, iv a, .ref 105, .retAddr 0] [.ref 56, iv a] B s l)
    (hU : ∀ (i : Nat) (B : aH) (s : aZ) (l : aZL) (a b : Int), 6 * i + 6 ≤ L → inR a → inR b → Inv i B s l → a_BI L i xs B s → a_J (d - 1) L i xs Inv 133 207 [.ref 0, iv a, iv b, .ref 105, .retAddr 0] [.ref 56, iv a, iv b] B s l) :
    ∀ (n i : Nat) (B : aH) (s : aZ) (l : aZL) (u5 u6 : Value), (L : Int) - 6 < 6 * ((i : Int) + n) → 6 * i ≤ L → Inv i B s l → a_BI L i xs B s → a_W d 0 23 [.ref aSc, .ref 0, .ref 56, .ref 105, iv (6 * (i : Int)), u5, u6] [] (mkH B s l) (fun r => ∃ hf, r = (.inl (some (.int 1)), hf) ∧ hf.2.1.1 ≤ 106 + 512 ∧ hf.2.1.2 ≤ 1300001 + 6 * 512) := by
  intro n
  induction n with
  | zero =>
    intro i B s l u5 u6 hn hi hI hB
    refine w0_23 hB.1 hd (by omega) hB.2.1 _ u5 u6 s l ⟨⟨by omega, by omega⟩, ⟨by omega, by omega⟩, fun _ => ?_, fun hc => absurd hc (by omega)⟩
    exact ⟨_, rfl, by have := hB.2.2.2.2.1; show B.2.1.1 ≤ _; omega, by have := hB.2.2.2.2.2; show B.2.1.2 ≤ _; omega⟩
  | succ n ih =>
    intro i B s l u5 u6 hn hi hI hB
    have nx : ∀ (B3 : aH) (s3 : aZ) (l3 : aZL) (v5 v6 : Value), 6 * i + 6 ≤ L → Inv (i + 1) B3 s3 l3 → a_BI L (i + 1) xs B3 s3 → a_W d 0 23 [.ref aSc, .ref 0, .ref 56, .ref 105, iv (6 * (i : Int) + 6), v5, v6] [] (mkH B3 s3 l3) (fun r => ∃ hf, r = (.inl (some (.int 1)), hf) ∧ hf.2.1.1 ≤ 106 + 512 ∧ hf.2.1.2 ≤ 1300001 + 6 * 512) := by
      intro B3 s3 l3 v5 v6 hi6 hI3 hB3
      have e : 6 * (i : Int) + 6 = 6 * ((i + 1 : Nat) : Int) := by omega
      rw [e]
      exact ih (i + 1) B3 s3 l3 v5 v6 (by omega) (by omega) hI3 hB3
    have up : ∀ (B3 : aH) (s3 : aZ), a_BI L i xs B3 s3 → a_BI L (i + 1) xs B3 s3 := fun B3 s3 h => ⟨h.1, h.2.1, h.2.2.1, by have := h.2.2.2; exact ⟨by have := this.1; omega, by have := this.2.1; omega, by have := this.2.2; omega⟩⟩
    have call : ∀ (hx mx : Nat) (xa ma ma2 : List Value), 6 * i + 6 ≤ L → (∀ s2 : aZ, s2 aSc = xs → True) → a_J (d - 1) L i xs Inv hx mx xa ma B s l → a_W (d - 1) hx 0 xa [] (mkH B s l) (fun r => ∃ (v : Int) (B2 : aH) (s2 : aZ) (l2 : aZL), r = (.inl (some (iv v)), mkH B2 s2 l2) ∧ a_Can B2 ∧ B2.2.2.1 aSc = (1000, L) ∧ s2 aSc = xs ∧ a_W (d - 1) mx 0 ma [] (mkH B2 s2 l2) (fun r => ∃ (v2 : Int) (B3 : aH) (s3 : aZ) (l3 : aZL), r = (.inl (some (iv v2)), mkH B3 s3 l3) ∧ a_Can B3 ∧ B3.2.2.1 aSc = (1000, L) ∧ (inR v ∧ (((zz s3 56 0) = v → ((v ≠ 0 → a_W d 0 23 [.ref aSc, .ref 0, .ref 56, .ref 105, iv (6 * (i : Int) + 6), iv v, iv v2] [] (mkH B3 s3 l3) (fun r => ∃ hf, r = (.inl (some (.int 1)), hf) ∧ hf.2.1.1 ≤ 106 + 512 ∧ hf.2.1.2 ≤ 1300001 + 6 * 512)) ∧ (v = 0 → (((l3 105 0) = ((Int32.ofInt v2).toInt64) → a_W d 0 23 [.ref aSc, .ref 0, .ref 56, .ref 105, iv (6 * (i : Int) + 6), iv v, iv v2] [] (mkH B3 s3 l3) (fun r => ∃ hf, r = (.inl (some (.int 1)), hf) ∧ hf.2.1.1 ≤ 106 + 512 ∧ hf.2.1.2 ≤ 1300001 + 6 * 512)) ∧ ((l3 105 0) ≠ ((Int32.ofInt v2).toInt64) → (fun r : aR => ∃ hf, r = (.inl (some (.int 1)), hf) ∧ hf.2.1.1 ≤ 106 + 512 ∧ hf.2.1.2 ≤ 1300001 + 6 * 512) (.inl (some (iv 0)), (mkH B3 s3 l3))))))) ∧ ((zz s3 56 0) ≠ v → (fun r : aR => ∃ hf, r = (.inl (some (.int 1)), hf) ∧ hf.2.1.1 ≤ 106 + 512 ∧ hf.2.1.2 ≤ 1300001 + 6 * 512) (.inl (some (iv 0)), (mkH B3 s3 l3))))))) := by
      intro hx mx xa ma _ hi6 _ hJ
      refine a_W.imp hJ ?_
      rintro _ ⟨v, B2, s2, l2, rfl, hB2, hv, hk⟩
      refine ⟨v, B2, s2, l2, rfl, hB2.1, hB2.2.1, hB2.2.2.1, a_W.imp hk ?_⟩
      rintro _ ⟨v2, B3, s3, l3, rfl, hB3, h1, h2, h3⟩
      exact ⟨v2, B3, s3, l3, rfl, hB3.1, hB3.2.1, hv, fun _ => ⟨fun _ => nx _ _ _ _ _ hi6 h3 hB3, fun h0 => ⟨fun _ => nx _ _ _ _ _ hi6 h3 hB3, fun hne => absurd (h2 h0) hne⟩⟩, fun hne => absurd h1 hne⟩
    have rd : ∀ (s2 : aZ) (j : Nat), s2 aSc = xs → zz s2 aSc j = zz s aSc j := fun s2 j h => zz_of (h.trans hB.2.2.1.symm) j
    refine w0_23 hB.1 hd (by omega) hB.2.1 _ u5 u6 s l ⟨⟨by omega, by omega⟩, ⟨by omega, by omega⟩, fun _ => ?_, fun hc => ⟨⟨by omega, by omega⟩, ?_⟩⟩
    · exact ⟨_, rfl, by have := hB.2.2.2.2.1; show B.2.1.1 ≤ _; omega, by have := hB.2.2.2.2.2; show B.2.1.2 ≤ _; omega⟩
    have hi6 : 6 * i + 6 ≤ L := by omega
    refine ⟨fun _ => ?_, fun _ => ?_, fun _ => ?_, fun _ => ?_, fun _ => ?_, fun _ => ?_, fun _ => ?_, fun _ => ?_, fun hne => ?_⟩
    · refine ⟨⟨by omega, by omega⟩, ⟨by omega, by omega⟩, ⟨by omega, by omega⟩, ⟨by omega, by omega⟩, ⟨by omega, by omega⟩, ?_⟩
      refine a_W.imp (hF i B s l _ _ _ _ _ hi6 (inR_zz _ _ _) (inR_zz _ _ _) (inR_zz _ _ _) (inR_zz _ _ _) (inR_zz _ _ _) hI hB) ?_
      rintro _ ⟨v, B2, s2, l2, rfl, hB2, hv, hk⟩
      refine ⟨v, B2, s2, l2, rfl, hB2.1, hB2.2.1, ?_⟩
      rw [rd s2 _ hB2.2.2.1, rd s2 _ hB2.2.2.1, rd s2 _ hB2.2.2.1, rd s2 _ hB2.2.2.1, rd s2 _ hB2.2.2.1]
      refine a_W.imp hk ?_
      rintro _ ⟨B3, s3, l3, rfl, hB3, h3⟩
      exact ⟨v, B3, s3, l3, rfl, hB3.1, hB3.2.1, hv, hv, fun _ => nx _ _ _ _ _ hi6 h3 hB3, fun hne => absurd rfl hne⟩
    · refine ⟨⟨by omega, by omega⟩, a_W.imp (call 20 143 _ _ [] hi6 (fun _ _ => trivial) (hT i B s l _ hi6 (inR_zz _ _ _) hI hB)) ?_⟩
      rintro _ ⟨v, B2, s2, l2, rfl, k1, k2, k3, hk⟩
      refine ⟨v, B2, s2, l2, rfl, k1, k2, ?_⟩
      rw [rd s2 _ k3]
      exact hk
    · refine ⟨⟨by omega, by omega⟩, a_W.imp (call 119 202 _ _ [] hi6 (fun _ _ => trivial) (hC i B s l _ hi6 (inR_zz _ _ _) hI hB)) ?_⟩
      rintro _ ⟨v, B2, s2, l2, rfl, k1, k2, k3, hk⟩
      refine ⟨v, B2, s2, l2, rfl, k1, k2, ?_⟩
      rw [rd s2 _ k3]
      exact hk
    · refine ⟨⟨by omega, by omega⟩, a_W.imp (call 125 203 _ _ [] hi6 (fun _ _ => trivial) (hY i B s l _ hi6 (inR_zz _ _ _) hI hB)) ?_⟩
      rintro _ ⟨v, B2, s2, l2, rfl, k1, k2, k3, hk⟩
      refine ⟨v, B2, s2, l2, rfl, k1, k2, ?_⟩
      rw [rd s2 _ k3]
      exact hk
    · obtain ⟨h1, h2, h3⟩ := hP i B s l hi6 hI
      refine ⟨fun _ => nx _ _ _ _ _ hi6 h3 (up _ _ ⟨hB.1, hB.2.1, ?_, hB.2.2.2⟩), fun hne => absurd h1 hne⟩
      rw [zu_ne _ _ _ _ _ (by decide)]
      exact hB.2.2.1
    · obtain ⟨h1, h2, h3⟩ := hP i B s l hi6 hI
      refine ⟨fun _ => nx _ _ _ _ _ hi6 h3 (up _ _ ⟨hB.1, hB.2.1, ?_, hB.2.2.2⟩), fun hne => absurd h2 hne⟩
      rw [zu_ne _ _ _ _ _ (by decide)]
      exact hB.2.2.1
    · refine ⟨⟨by omega, by omega⟩, a_W.imp (call 130 206 _ _ [] hi6 (fun _ _ => trivial) (hS i B s l _ hi6 (inR_zz _ _ _) hI hB)) ?_⟩
      rintro _ ⟨v, B2, s2, l2, rfl, k1, k2, k3, hk⟩
      refine ⟨v, B2, s2, l2, rfl, k1, k2, ?_⟩
      rw [rd s2 _ k3]
      exact hk
    · refine ⟨⟨by omega, by omega⟩, ⟨by omega, by omega⟩, a_W.imp (call 133 207 _ _ [] hi6 (fun _ _ => trivial) (hU i B s l _ _ hi6 (inR_zz _ _ _) (inR_zz _ _ _) hI hB)) ?_⟩
      rintro _ ⟨v, B2, s2, l2, rfl, k1, k2, k3, hk⟩
      refine ⟨v, B2, s2, l2, rfl, k1, k2, ?_⟩
      rw [rd s2 _ k3, rd s2 _ k3]
      exact hk
    · have h7 := and7 (zz s aSc (6 * (i : Int)).toNat)
      obtain ⟨n0, n1, n2, n3, n4, n5, n6, n7⟩ := hne
      omega
