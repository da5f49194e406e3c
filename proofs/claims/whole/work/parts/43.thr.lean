/-! printed by wip/am/mk43.py: calls that throw; symbol and typeSymbol -/
theorem a_BI.thr {L i : Nat} {xs : Nat → Int32} {B : aH} {s : aZ} (h : a_BI L i xs B s) (hi : i ≤ 600) (c : Nat) : B.1 + 1 < aSc ∧ a_BI L (i + 1) xs (a_mk c 6 B) (a_new s B.1 0) ∧ (∀ k, k < 106 → a_new s B.1 0 k = s k) ∧ (∀ (l : aZL) (k : Nat), k < 106 → a_new l B.1 0 k = l k) := by
  obtain ⟨h1, h2, h3, h4⟩ := h
  have hb : B.1 + 1 < aSc := by have := h4.1; unfold aSc; omega
  have h6 : 106 ≤ B.1 := h1.1
  have n1 : ∀ k, k < 106 → k ≠ B.1 := fun k hk => by omega
  refine ⟨hb, ⟨⟨?_, ?_, ?_⟩, ?_, ?_, ?_⟩, ?_, ?_⟩
  · show 106 ≤ B.1 + 1
    omega
  · intro k hk
    show a_kup B.2.2.1 B.1 (c, 6) k = _
    unfold a_kup
    rw [if_neg (n1 k hk)]
    exact h1.2.1 k hk
  · intro k j v hr
    show a_new B.2.2.2.2.2 B.1 none k j = _
    unfold a_new
    have hk : k < 106 := by
      apply Decidable.byContradiction
      intro hn
      unfold aRf at hr
      rw [List.getD_eq_getElem?_getD, List.getElem?_eq_none (by show 106 ≤ k; omega)] at hr
      cases hr
    rw [if_neg (n1 k hk)]
    exact h1.2.2 k j v hr
  · show a_kup B.2.2.1 B.1 (c, 6) aSc = _
    unfold a_kup
    rw [if_neg (by omega)]
    exact h2
  · show a_new s B.1 0 aSc = _
    unfold a_new
    rw [if_neg (by omega)]
    exact h3
  · refine ⟨?_, ?_, ?_⟩
    · show B.1 + 1 ≤ _
      have := h4.1
      omega
    · show B.2.1.1 + 1 ≤ _
      have := h4.2.1
      omega
    · show B.2.1.2 + 6 ≤ _
      have := h4.2.2
      omega
  · intro k hk
    unfold a_new
    rw [if_neg (n1 k hk)]
  · intro l k hk
    unfold a_new
    rw [if_neg (n1 k hk)]
theorem a_BI.up {L i : Nat} {xs : Nat → Int32} {B : aH} {s s2 : aZ} (h : a_BI L i xs B s) (hs : s2 aSc = s aSc) : a_BI L (i + 1) xs B s2 := ⟨h.1, h.2.1, hs.trans h.2.2.1, by have := h.2.2.2; exact ⟨by have := this.1; omega, by have := this.2.1; omega, by have := this.2.2; omega⟩⟩
/-- what a refused call leaves -/
def a_Kp (s : aZ) (l : aZL) (s3 : aZ) (l3 : aZL) : Prop := (∀ k, k < 106 → k ≠ 56 → s3 k = s k) ∧ (∀ j, j ≠ 0 → zz s3 56 j = zz s 56 j) ∧ (∀ k, k < 106 → l3 k = l k)
theorem a_Kp.zu {s s2 : aZ} {l l2 : aZL} (h1 : ∀ k, k < 106 → s2 k = s k) (h2 : ∀ k, k < 106 → l2 k = l k) (v : Int) : a_Kp s l (zu s2 56 0 v) l2 := by
  refine ⟨fun k hk h5 => ?_, fun j hj => ?_, h2⟩
  · rw [zu_ne _ _ _ _ _ h5, h1 k hk]
  · rw [zz_ne _ _ _ _ _ _ (by omega)]
    exact zz_of (h1 56 (by omega)) j
theorem j20_thr {d L i : Nat} (hd : 2 ≤ d) (hi : i ≤ 600) {xs : Nat → Int32} {Inv : Nat → aH → aZ → aZL → Prop} {B : aH} {s : aZ} {l : aZL} {a : Int} (ha : inR a) (hB : a_BI L i xs B s) (hf : zz s 56 2 = zz s 1 2) (hn : a < 0 ∨ zz s 1 2 < a) (hI : ∀ (B3 : aH) (s3 : aZ) (l3 : aZL), a_Kp s l s3 l3 → Inv (i + 1) B3 s3 l3) : a_J d L i xs Inv 20 143 [.ref 0, iv a, .ref 105, .retAddr 0] [.ref 56, iv a, .retAddr 0, .retAddr 0] B s l := by
  obtain ⟨t1, t2, t3, t4⟩ := hB.thr hi 12
  have fin : a_W d 143 0 [.ref 56, iv a, .retAddr 0, .retAddr 0] [] (mkH (a_mk 12 6 B) (a_new s B.1 0) (a_new l B.1 0)) (fun r => ∃ (v2 : Int) (B3 : aH) (s3 : aZ) (l3 : aZL), r = (.inl (some (iv v2)), mkH B3 s3 l3) ∧ a_BI L (i + 1) xs B3 s3 ∧ zz s3 56 0 = 1 ∧ ((1 : Int) = 0 → l3 105 0 = (Int32.ofInt v2).toInt64) ∧ Inv (i + 1) B3 s3 l3) := by
    have hz : zz (a_new s B.1 0) 56 2 = zz s 1 2 := (zz_of (t3 56 (by omega)) 2).trans hf
    have q : (fun r : aR => ∃ (v2 : Int) (B3 : aH) (s3 : aZ) (l3 : aZL), r = (.inl (some (iv v2)), mkH B3 s3 l3) ∧ a_BI L (i + 1) xs B3 s3 ∧ zz s3 56 0 = 1 ∧ ((1 : Int) = 0 → l3 105 0 = (Int32.ofInt v2).toInt64) ∧ Inv (i + 1) B3 s3 l3) (.inl (some (iv 0)), mkH (a_mk 12 6 B) (zu (a_new s B.1 0) 56 0 1) (a_new l B.1 0)) := by
      refine ⟨0, _, _, _, rfl, ⟨t2.1, t2.2.1, ?_, t2.2.2.2⟩, zz_same _ _ _ ⟨by decide, by decide⟩, fun h => absurd h (by decide), hI _ _ _ (a_Kp.zu t3 (t4 l) 1)⟩
      rw [zu_ne _ _ _ _ _ (by decide)]
      exact t2.2.2.1
    refine w143_0 t2.1 hd a _ _ ⟨ha, fun _ => q, fun h0 => ⟨fun h1 => ?_, fun _ => q⟩⟩
    exfalso
    omega
  refine w20_0 hB.1 (by omega) a s l ?_
  have q2 : B.1 + 1 < aSc ∧ ((∃ (v3 : Int) (s1 : Nat → Nat → Int32) (l2 : Nat → Nat → Int64), ((.inr 12, a_mk 12 6 (mkH B s l)) : aR) = (.inl (some (iv v3)), mkH B s1 l2) ∧ (fun r => ∃ (v : Int) (B2 : aH) (s2 : aZ) (l2 : aZL), r = (.inl (some (iv v)), mkH B2 s2 l2) ∧ a_BI L (i + 1) xs B2 s2 ∧ inR v ∧ a_W d 143 0 [.ref 56, iv a, .retAddr 0, .retAddr 0] [] (mkH B2 s2 l2) (fun r => ∃ (v2 : Int) (B3 : aH) (s3 : aZ) (l3 : aZL), r = (.inl (some (iv v2)), mkH B3 s3 l3) ∧ a_BI L (i + 1) xs B3 s3 ∧ zz s3 56 0 = v ∧ (v = 0 → l3 105 0 = (Int32.ofInt v2).toInt64) ∧ Inv (i + 1) B3 s3 l3)) ((.inl (some (iv 0)), (mkH B s1 (a_up l2 105 0 ((Int32.ofInt v3).toInt64)))) : aR)) ∨ (∃ (ci : Nat) (h2 : aH), ((.inr 12, a_mk 12 6 (mkH B s l)) : aR) = (.inr ci, h2) ∧ (fun r => ∃ (v : Int) (B2 : aH) (s2 : aZ) (l2 : aZL), r = (.inl (some (iv v)), mkH B2 s2 l2) ∧ a_BI L (i + 1) xs B2 s2 ∧ inR v ∧ a_W d 143 0 [.ref 56, iv a, .retAddr 0, .retAddr 0] [] (mkH B2 s2 l2) (fun r => ∃ (v2 : Int) (B3 : aH) (s3 : aZ) (l3 : aZL), r = (.inl (some (iv v2)), mkH B3 s3 l3) ∧ a_BI L (i + 1) xs B3 s3 ∧ zz s3 56 0 = v ∧ (v = 0 → l3 105 0 = (Int32.ofInt v2).toInt64) ∧ Inv (i + 1) B3 s3 l3)) ((.inl (some (iv 1)), h2) : aR))) :=
    ⟨t1, Or.inr ⟨12, _, rfl, 1, _, _, _, rfl, t2, ⟨by decide, by decide⟩, fin⟩⟩
  refine w21_0 hB.1 (by omega) a s l ⟨ha, fun _ => q2, fun h0 => ⟨fun _ => q2, fun h1 => ?_⟩⟩
  exfalso
  omega
theorem j119_thr {d L i : Nat} (hd : 2 ≤ d) (hi : i ≤ 600) {xs : Nat → Int32} {Inv : Nat → aH → aZ → aZL → Prop} {B : aH} {s : aZ} {l : aZL} {a : Int} (ha : inR a) (hB : a_BI L i xs B s) (hf : zz s 56 2 = zz s 1 2) (hn : a < 0 ∨ zz s 1 2 < a) (hI : ∀ (B3 : aH) (s3 : aZ) (l3 : aZL), a_Kp s l s3 l3 → Inv (i + 1) B3 s3 l3) : a_J d L i xs Inv 119 202 [.ref 0, iv a, .ref 105, .retAddr 0] [.ref 56, iv a, .retAddr 0, .retAddr 0, .retAddr 0, .retAddr 0] B s l := by
  obtain ⟨t1, t2, t3, t4⟩ := hB.thr hi 12
  have fin : a_W d 202 0 [.ref 56, iv a, .retAddr 0, .retAddr 0, .retAddr 0, .retAddr 0] [] (mkH (a_mk 12 6 B) (a_new s B.1 0) (a_new l B.1 0)) (fun r => ∃ (v2 : Int) (B3 : aH) (s3 : aZ) (l3 : aZL), r = (.inl (some (iv v2)), mkH B3 s3 l3) ∧ a_BI L (i + 1) xs B3 s3 ∧ zz s3 56 0 = 1 ∧ ((1 : Int) = 0 → l3 105 0 = (Int32.ofInt v2).toInt64) ∧ Inv (i + 1) B3 s3 l3) := by
    have hz : zz (a_new s B.1 0) 56 2 = zz s 1 2 := (zz_of (t3 56 (by omega)) 2).trans hf
    have q : (fun r : aR => ∃ (v2 : Int) (B3 : aH) (s3 : aZ) (l3 : aZL), r = (.inl (some (iv v2)), mkH B3 s3 l3) ∧ a_BI L (i + 1) xs B3 s3 ∧ zz s3 56 0 = 1 ∧ ((1 : Int) = 0 → l3 105 0 = (Int32.ofInt v2).toInt64) ∧ Inv (i + 1) B3 s3 l3) (.inl (some (iv 0)), mkH (a_mk 12 6 B) (zu (a_new s B.1 0) 56 0 1) (a_new l B.1 0)) := by
      refine ⟨0, _, _, _, rfl, ⟨t2.1, t2.2.1, ?_, t2.2.2.2⟩, zz_same _ _ _ ⟨by decide, by decide⟩, fun h => absurd h (by decide), hI _ _ _ (a_Kp.zu t3 (t4 l) 1)⟩
      rw [zu_ne _ _ _ _ _ (by decide)]
      exact t2.2.2.1
    refine w202_0 t2.1 hd a _ _ ⟨ha, fun _ => q, fun h0 => ⟨fun h1 => ?_, fun _ => q⟩⟩
    exfalso
    omega
  refine w119_0 hB.1 (by omega) a s l ?_
  have q2 : B.1 + 1 < aSc ∧ ((∃ (v3 : Int) (s1 : Nat → Nat → Int32) (l2 : Nat → Nat → Int64), ((.inr 12, a_mk 12 6 (mkH B s l)) : aR) = (.inl (some (iv v3)), mkH B s1 l2) ∧ (fun r => ∃ (v : Int) (B2 : aH) (s2 : aZ) (l2 : aZL), r = (.inl (some (iv v)), mkH B2 s2 l2) ∧ a_BI L (i + 1) xs B2 s2 ∧ inR v ∧ a_W d 202 0 [.ref 56, iv a, .retAddr 0, .retAddr 0, .retAddr 0, .retAddr 0] [] (mkH B2 s2 l2) (fun r => ∃ (v2 : Int) (B3 : aH) (s3 : aZ) (l3 : aZL), r = (.inl (some (iv v2)), mkH B3 s3 l3) ∧ a_BI L (i + 1) xs B3 s3 ∧ zz s3 56 0 = v ∧ (v = 0 → l3 105 0 = (Int32.ofInt v2).toInt64) ∧ Inv (i + 1) B3 s3 l3)) ((.inl (some (iv 0)), (mkH B s1 (a_up l2 105 0 ((Int32.ofInt v3).toInt64)))) : aR)) ∨ (∃ (ci : Nat) (h2 : aH), ((.inr 12, a_mk 12 6 (mkH B s l)) : aR) = (.inr ci, h2) ∧ (fun r => ∃ (v : Int) (B2 : aH) (s2 : aZ) (l2 : aZL), r = (.inl (some (iv v)), mkH B2 s2 l2) ∧ a_BI L (i + 1) xs B2 s2 ∧ inR v ∧ a_W d 202 0 [.ref 56, iv a, .retAddr 0, .retAddr 0, .retAddr 0, .retAddr 0] [] (mkH B2 s2 l2) (fun r => ∃ (v2 : Int) (B3 : aH) (s3 : aZ) (l3 : aZL), r = (.inl (some (iv v2)), mkH B3 s3 l3) ∧ a_BI L (i + 1) xs B3 s3 ∧ zz s3 56 0 = v ∧ (v = 0 → l3 105 0 = (Int32.ofInt v2).toInt64) ∧ Inv (i + 1) B3 s3 l3)) ((.inl (some (iv 1)), h2) : aR))) :=
    ⟨t1, Or.inr ⟨12, _, rfl, 1, _, _, _, rfl, t2, ⟨by decide, by decide⟩, fin⟩⟩
  refine w120_0 hB.1 (by omega) a s l ⟨ha, fun _ => q2, fun h0 => ⟨fun _ => q2, fun h1 => ?_⟩⟩
  exfalso
  omega
theorem j125_thr {d L i : Nat} (hd : 2 ≤ d) (hi : i ≤ 600) {xs : Nat → Int32} {Inv : Nat → aH → aZ → aZL → Prop} {B : aH} {s : aZ} {l : aZL} {a : Int} (ha : inR a) (hB : a_BI L i xs B s) (hf : zz s 56 2 = zz s 1 2) (hn : a < 0 ∨ zz s 1 2 < a) (hI : ∀ (B3 : aH) (s3 : aZ) (l3 : aZL), a_Kp s l s3 l3 → Inv (i + 1) B3 s3 l3) : a_J d L i xs Inv 125 203 [.ref 0, iv a, .ref 105, .retAddr 0] [.ref 56, iv a, .retAddr 0] B s l := by
  obtain ⟨t1, t2, t3, t4⟩ := hB.thr hi 12
  have fin : a_W d 203 0 [.ref 56, iv a, .retAddr 0] [] (mkH (a_mk 12 6 B) (a_new s B.1 0) (a_new l B.1 0)) (fun r => ∃ (v2 : Int) (B3 : aH) (s3 : aZ) (l3 : aZL), r = (.inl (some (iv v2)), mkH B3 s3 l3) ∧ a_BI L (i + 1) xs B3 s3 ∧ zz s3 56 0 = 1 ∧ ((1 : Int) = 0 → l3 105 0 = (Int32.ofInt v2).toInt64) ∧ Inv (i + 1) B3 s3 l3) := by
    have hz : zz (a_new s B.1 0) 56 2 = zz s 1 2 := (zz_of (t3 56 (by omega)) 2).trans hf
    have q : (fun r : aR => ∃ (v2 : Int) (B3 : aH) (s3 : aZ) (l3 : aZL), r = (.inl (some (iv v2)), mkH B3 s3 l3) ∧ a_BI L (i + 1) xs B3 s3 ∧ zz s3 56 0 = 1 ∧ ((1 : Int) = 0 → l3 105 0 = (Int32.ofInt v2).toInt64) ∧ Inv (i + 1) B3 s3 l3) (.inl (some (iv 0)), mkH (a_mk 12 6 B) (zu (a_new s B.1 0) 56 0 1) (a_new l B.1 0)) := by
      refine ⟨0, _, _, _, rfl, ⟨t2.1, t2.2.1, ?_, t2.2.2.2⟩, zz_same _ _ _ ⟨by decide, by decide⟩, fun h => absurd h (by decide), hI _ _ _ (a_Kp.zu t3 (t4 l) 1)⟩
      rw [zu_ne _ _ _ _ _ (by decide)]
      exact t2.2.2.1
    refine w203_0 t2.1 hd a _ _ ⟨ha, fun _ => q, fun h0 => ⟨fun h1 => ?_, fun _ => q⟩⟩
    exfalso
    omega
  refine w125_0 hB.1 (by omega) a s l ?_
  have q2 : B.1 + 1 < aSc ∧ ((∃ (v3 : Int) (s1 : Nat → Nat → Int32) (l2 : Nat → Nat → Int64), ((.inr 12, a_mk 12 6 (mkH B s l)) : aR) = (.inl (some (iv v3)), mkH B s1 l2) ∧ (fun r => ∃ (v : Int) (B2 : aH) (s2 : aZ) (l2 : aZL), r = (.inl (some (iv v)), mkH B2 s2 l2) ∧ a_BI L (i + 1) xs B2 s2 ∧ inR v ∧ a_W d 203 0 [.ref 56, iv a, .retAddr 0] [] (mkH B2 s2 l2) (fun r => ∃ (v2 : Int) (B3 : aH) (s3 : aZ) (l3 : aZL), r = (.inl (some (iv v2)), mkH B3 s3 l3) ∧ a_BI L (i + 1) xs B3 s3 ∧ zz s3 56 0 = v ∧ (v = 0 → l3 105 0 = (Int32.ofInt v2).toInt64) ∧ Inv (i + 1) B3 s3 l3)) ((.inl (some (iv 0)), (mkH B s1 (a_up l2 105 0 ((Int32.ofInt v3).toInt64)))) : aR)) ∨ (∃ (ci : Nat) (h2 : aH), ((.inr 12, a_mk 12 6 (mkH B s l)) : aR) = (.inr ci, h2) ∧ (fun r => ∃ (v : Int) (B2 : aH) (s2 : aZ) (l2 : aZL), r = (.inl (some (iv v)), mkH B2 s2 l2) ∧ a_BI L (i + 1) xs B2 s2 ∧ inR v ∧ a_W d 203 0 [.ref 56, iv a, .retAddr 0] [] (mkH B2 s2 l2) (fun r => ∃ (v2 : Int) (B3 : aH) (s3 : aZ) (l3 : aZL), r = (.inl (some (iv v2)), mkH B3 s3 l3) ∧ a_BI L (i + 1) xs B3 s3 ∧ zz s3 56 0 = v ∧ (v = 0 → l3 105 0 = (Int32.ofInt v2).toInt64) ∧ Inv (i + 1) B3 s3 l3)) ((.inl (some (iv 1)), h2) : aR))) :=
    ⟨t1, Or.inr ⟨12, _, rfl, 1, _, _, _, rfl, t2, ⟨by decide, by decide⟩, fin⟩⟩
  refine w126_0 hB.1 (by omega) a s l ⟨ha, fun _ => q2, fun h0 => ⟨fun _ => q2, fun h1 => ?_⟩⟩
  exfalso
  omega
/-- the latest term, shown alike -/
def a_Sh (s : aZ) : Prop := ∃ n : Nat, n ≤ 500 ∧ zz s 51 4 = n ∧ zz s 56 18 = n ∧ ∀ i : Nat, i < n → zz s 52 i = zz s 68 i ∧ zz s 53 i = zz s 69 i ∧ zz s 53 (i + 1) = zz s 69 (i + 1) ∧ 0 ≤ zz s 53 i ∧ zz s 53 i ≤ zz s 53 (i + 1) ∧ zz s 53 (i + 1) ≤ 20000 ∧ ∀ j : Nat, zz s 53 i ≤ j → (j : Int) < zz s 53 (i + 1) → zz s 54 j = zz s 70 j
theorem j130 {d L i : Nat} (hd : 2 ≤ d) (hi : i ≤ 600) {xs : Nat → Int32} {Inv : Nat → aH → aZ → aZL → Prop} {B : aH} {s : aZ} {l : aZL} {a : Int} (ha : inR a) (hB : a_BI L i xs B s) (hSh : a_Sh s) (hI : ∀ (B3 : aH) (s3 : aZ) (l3 : aZL), (∀ k, k < 106 → k ≠ 56 → s3 k = s k) → (∀ j, j ≠ 0 → zz s3 56 j = zz s 56 j) → (∀ k, k < 105 → l3 k = l k) → Inv (i + 1) B3 s3 l3) : a_J d L i xs Inv 130 206 [.ref 0, iv a, .ref 105, .retAddr 0] [.ref 56, iv a] B s l := by
  obtain ⟨n, hn, n1, n2, n3⟩ := hSh
  obtain ⟨t1, t2, t3, t4⟩ := hB.thr hi 13
  have z18 : zz (a_new s B.1 0) 56 18 = n := (zz_of (t3 56 (by omega)) 18).trans n2
  have q1 : (fun r => ∃ (v2 : Int) (B3 : aH) (s3 : aZ) (l3 : aZL), r = (.inl (some (iv v2)), mkH B3 s3 l3) ∧ a_BI L (i + 1) xs B3 s3 ∧ zz s3 56 0 = (1 : Int) ∧ ((1 : Int) = 0 → l3 105 0 = (Int32.ofInt v2).toInt64) ∧ Inv (i + 1) B3 s3 l3) ((.inl (some (iv 0)), mkH (a_mk 13 6 B) (zu (a_new s B.1 0) 56 0 1) (a_new l B.1 0)) : aR) := by
    refine ⟨0, _, _, _, rfl, ⟨t2.1, t2.2.1, ?_, t2.2.2.2⟩, zz_same _ _ _ ⟨by decide, by decide⟩, fun h => absurd h (by decide), hI _ _ _ ?_ ?_ ?_⟩
    · rw [zu_ne _ _ _ _ _ (by decide)]
      exact t2.2.2.1
    · exact (a_Kp.zu t3 (t4 l) 1).1
    · exact (a_Kp.zu t3 (t4 l) 1).2.1
    · exact fun k hk => t4 l k (by omega)
  have thr : a_W d 206 0 [.ref 56, iv a] [] (mkH (a_mk 13 6 B) (a_new s B.1 0) (a_new l B.1 0)) (fun r => ∃ (v2 : Int) (B3 : aH) (s3 : aZ) (l3 : aZL), r = (.inl (some (iv v2)), mkH B3 s3 l3) ∧ a_BI L (i + 1) xs B3 s3 ∧ zz s3 56 0 = (1 : Int) ∧ ((1 : Int) = 0 → l3 105 0 = (Int32.ofInt v2).toInt64) ∧ Inv (i + 1) B3 s3 l3) → (fun r : aR => ∃ (v : Int) (B2 : aH) (s2 : aZ) (l2 : aZL), r = (.inl (some (iv v)), mkH B2 s2 l2) ∧ a_BI L (i + 1) xs B2 s2 ∧ inR v ∧ a_W d 206 0 [.ref 56, iv a] [] (mkH B2 s2 l2) (fun r => ∃ (v2 : Int) (B3 : aH) (s3 : aZ) (l3 : aZL), r = (.inl (some (iv v2)), mkH B3 s3 l3) ∧ a_BI L (i + 1) xs B3 s3 ∧ zz s3 56 0 = v ∧ (v = 0 → l3 105 0 = (Int32.ofInt v2).toInt64) ∧ Inv (i + 1) B3 s3 l3)) ((.inl (some (iv 1)), a_mk 13 6 (mkH B s l)) : aR) := fun fin => ⟨1, _, _, _, rfl, t2, ⟨by decide, by decide⟩, fin⟩
  have okq : ∀ v : Int, (fun r => ∃ (v2 : Int) (B3 : aH) (s3 : aZ) (l3 : aZL), r = (.inl (some (iv v2)), mkH B3 s3 l3) ∧ a_BI L (i + 1) xs B3 s3 ∧ zz s3 56 0 = (0 : Int) ∧ ((0 : Int) = 0 → l3 105 0 = (Int32.ofInt v2).toInt64) ∧ Inv (i + 1) B3 s3 l3) ((.inl (some (iv v)), mkH B (zu s 56 0 0) (a_up l 105 0 ((Int32.ofInt v).toInt64))) : aR) := by
    intro v
    refine ⟨v, _, _, _, rfl, hB.up (zu_ne _ _ _ _ _ (by decide)), zz_same _ _ _ ⟨by decide, by decide⟩, fun _ => ?_, hI _ _ _ ?_ ?_ ?_⟩
    · unfold a_up
      simp only [if_true]
    · exact (a_Kp.zu (fun _ _ => rfl) (fun _ _ => rfl) 0 : a_Kp s l (zu s 56 0 0) l).1
    · exact (a_Kp.zu (fun _ _ => rfl) (fun _ _ => rfl) 0 : a_Kp s l (zu s 56 0 0) l).2.1
    · intro k hk
      unfold a_up
      rw [if_neg (by omega)]
  have ok : ∀ v : Int, a_W d 206 0 [.ref 56, iv a] [] (mkH B s (a_up l 105 0 ((Int32.ofInt v).toInt64))) (fun r => ∃ (v2 : Int) (B3 : aH) (s3 : aZ) (l3 : aZL), r = (.inl (some (iv v2)), mkH B3 s3 l3) ∧ a_BI L (i + 1) xs B3 s3 ∧ zz s3 56 0 = (0 : Int) ∧ ((0 : Int) = 0 → l3 105 0 = (Int32.ofInt v2).toInt64) ∧ Inv (i + 1) B3 s3 l3) → (fun r : aR => ∃ (v : Int) (B2 : aH) (s2 : aZ) (l2 : aZL), r = (.inl (some (iv v)), mkH B2 s2 l2) ∧ a_BI L (i + 1) xs B2 s2 ∧ inR v ∧ a_W d 206 0 [.ref 56, iv a] [] (mkH B2 s2 l2) (fun r => ∃ (v2 : Int) (B3 : aH) (s3 : aZ) (l3 : aZL), r = (.inl (some (iv v2)), mkH B3 s3 l3) ∧ a_BI L (i + 1) xs B3 s3 ∧ zz s3 56 0 = v ∧ (v = 0 → l3 105 0 = (Int32.ofInt v2).toInt64) ∧ Inv (i + 1) B3 s3 l3)) ((.inl (some (iv 0)), mkH B s (a_up l 105 0 ((Int32.ofInt v).toInt64))) : aR) := fun v fin => ⟨0, _, _, _, rfl, hB.up rfl, ⟨by decide, by decide⟩, fin⟩
  refine w130_0 hB.1 (by omega) a s l ?_
  refine w131_0 hB.1 (by omega) a s l ⟨ha, fun h0 => ⟨t1, Or.inr ⟨13, _, rfl, thr ?_⟩⟩, fun h0 => ⟨fun h1 => ⟨t1, Or.inr ⟨13, _, rfl, thr ?_⟩⟩, fun h1 => ⟨⟨h0, by omega⟩, Or.inl ⟨_, s, l, rfl, ok _ ?_⟩⟩⟩⟩
  · exact w206_0 t2.1 a _ _ ⟨ha, fun _ => q1, fun h => absurd h (by omega)⟩
  · refine w206_0 t2.1 a _ _ ⟨ha, fun _ => q1, fun _ => ⟨fun h => absurd h (by omega), fun _ => q1⟩⟩
  · refine w206_0 hB.1 a _ _ ⟨ha, fun h => absurd h0 (by omega), fun _ => ⟨fun _ => ⟨⟨h0, by omega⟩, ?_⟩, fun h => absurd h (by omega)⟩⟩
    rw [← (n3 a.toNat (by omega)).1]
    exact okq _
theorem j133 {d L i : Nat} (hd : 2 ≤ d) (hi : i ≤ 600) {xs : Nat → Int32} {Inv : Nat → aH → aZ → aZL → Prop} {B : aH} {s : aZ} {l : aZL} {a b : Int} (ha : inR a) (hb : inR b) (hB : a_BI L i xs B s) (hSh : a_Sh s) (hI : ∀ (B3 : aH) (s3 : aZ) (l3 : aZL), (∀ k, k < 106 → k ≠ 56 → s3 k = s k) → (∀ j, j ≠ 0 → zz s3 56 j = zz s 56 j) → (∀ k, k < 105 → l3 k = l k) → Inv (i + 1) B3 s3 l3) : a_J d L i xs Inv 133 207 [.ref 0, iv a, iv b, .ref 105, .retAddr 0] [.ref 56, iv a, iv b] B s l := by
  obtain ⟨n, hn, n1, n2, n3⟩ := hSh
  obtain ⟨t1, t2, t3, t4⟩ := hB.thr hi 13
  have z18 : zz (a_new s B.1 0) 56 18 = n := (zz_of (t3 56 (by omega)) 18).trans n2
  have q1 : (fun r => ∃ (v2 : Int) (B3 : aH) (s3 : aZ) (l3 : aZL), r = (.inl (some (iv v2)), mkH B3 s3 l3) ∧ a_BI L (i + 1) xs B3 s3 ∧ zz s3 56 0 = (1 : Int) ∧ ((1 : Int) = 0 → l3 105 0 = (Int32.ofInt v2).toInt64) ∧ Inv (i + 1) B3 s3 l3) ((.inl (some (iv 0)), mkH (a_mk 13 6 B) (zu (a_new s B.1 0) 56 0 1) (a_new l B.1 0)) : aR) := by
    refine ⟨0, _, _, _, rfl, ⟨t2.1, t2.2.1, ?_, t2.2.2.2⟩, zz_same _ _ _ ⟨by decide, by decide⟩, fun h => absurd h (by decide), hI _ _ _ ?_ ?_ ?_⟩
    · rw [zu_ne _ _ _ _ _ (by decide)]
      exact t2.2.2.1
    · exact (a_Kp.zu t3 (t4 l) 1).1
    · exact (a_Kp.zu t3 (t4 l) 1).2.1
    · exact fun k hk => t4 l k (by omega)
  have thr : a_W d 207 0 [.ref 56, iv a, iv b] [] (mkH (a_mk 13 6 B) (a_new s B.1 0) (a_new l B.1 0)) (fun r => ∃ (v2 : Int) (B3 : aH) (s3 : aZ) (l3 : aZL), r = (.inl (some (iv v2)), mkH B3 s3 l3) ∧ a_BI L (i + 1) xs B3 s3 ∧ zz s3 56 0 = (1 : Int) ∧ ((1 : Int) = 0 → l3 105 0 = (Int32.ofInt v2).toInt64) ∧ Inv (i + 1) B3 s3 l3) → (fun r : aR => ∃ (v : Int) (B2 : aH) (s2 : aZ) (l2 : aZL), r = (.inl (some (iv v)), mkH B2 s2 l2) ∧ a_BI L (i + 1) xs B2 s2 ∧ inR v ∧ a_W d 207 0 [.ref 56, iv a, iv b] [] (mkH B2 s2 l2) (fun r => ∃ (v2 : Int) (B3 : aH) (s3 : aZ) (l3 : aZL), r = (.inl (some (iv v2)), mkH B3 s3 l3) ∧ a_BI L (i + 1) xs B3 s3 ∧ zz s3 56 0 = v ∧ (v = 0 → l3 105 0 = (Int32.ofInt v2).toInt64) ∧ Inv (i + 1) B3 s3 l3)) ((.inl (some (iv 1)), a_mk 13 6 (mkH B s l)) : aR) := fun fin => ⟨1, _, _, _, rfl, t2, ⟨by decide, by decide⟩, fin⟩
  have okq : ∀ v : Int, (fun r => ∃ (v2 : Int) (B3 : aH) (s3 : aZ) (l3 : aZL), r = (.inl (some (iv v2)), mkH B3 s3 l3) ∧ a_BI L (i + 1) xs B3 s3 ∧ zz s3 56 0 = (0 : Int) ∧ ((0 : Int) = 0 → l3 105 0 = (Int32.ofInt v2).toInt64) ∧ Inv (i + 1) B3 s3 l3) ((.inl (some (iv v)), mkH B (zu s 56 0 0) (a_up l 105 0 ((Int32.ofInt v).toInt64))) : aR) := by
    intro v
    refine ⟨v, _, _, _, rfl, hB.up (zu_ne _ _ _ _ _ (by decide)), zz_same _ _ _ ⟨by decide, by decide⟩, fun _ => ?_, hI _ _ _ ?_ ?_ ?_⟩
    · unfold a_up
      simp only [if_true]
    · exact (a_Kp.zu (fun _ _ => rfl) (fun _ _ => rfl) 0 : a_Kp s l (zu s 56 0 0) l).1
    · exact (a_Kp.zu (fun _ _ => rfl) (fun _ _ => rfl) 0 : a_Kp s l (zu s 56 0 0) l).2.1
    · intro k hk
      unfold a_up
      rw [if_neg (by omega)]
  have ok : ∀ v : Int, a_W d 207 0 [.ref 56, iv a, iv b] [] (mkH B s (a_up l 105 0 ((Int32.ofInt v).toInt64))) (fun r => ∃ (v2 : Int) (B3 : aH) (s3 : aZ) (l3 : aZL), r = (.inl (some (iv v2)), mkH B3 s3 l3) ∧ a_BI L (i + 1) xs B3 s3 ∧ zz s3 56 0 = (0 : Int) ∧ ((0 : Int) = 0 → l3 105 0 = (Int32.ofInt v2).toInt64) ∧ Inv (i + 1) B3 s3 l3) → (fun r : aR => ∃ (v : Int) (B2 : aH) (s2 : aZ) (l2 : aZL), r = (.inl (some (iv v)), mkH B2 s2 l2) ∧ a_BI L (i + 1) xs B2 s2 ∧ inR v ∧ a_W d 207 0 [.ref 56, iv a, iv b] [] (mkH B2 s2 l2) (fun r => ∃ (v2 : Int) (B3 : aH) (s3 : aZ) (l3 : aZL), r = (.inl (some (iv v2)), mkH B3 s3 l3) ∧ a_BI L (i + 1) xs B3 s3 ∧ zz s3 56 0 = v ∧ (v = 0 → l3 105 0 = (Int32.ofInt v2).toInt64) ∧ Inv (i + 1) B3 s3 l3)) ((.inl (some (iv 0)), mkH B s (a_up l 105 0 ((Int32.ofInt v).toInt64))) : aR) := fun v fin => ⟨0, _, _, _, rfl, hB.up rfl, ⟨by decide, by decide⟩, fin⟩
  have z207 : (a < 0 ∨ (n : Int) ≤ a) → a_W d 207 0 [.ref 56, iv a, iv b] [] (mkH (a_mk 13 6 B) (a_new s B.1 0) (a_new l B.1 0)) (fun r => ∃ (v2 : Int) (B3 : aH) (s3 : aZ) (l3 : aZL), r = (.inl (some (iv v2)), mkH B3 s3 l3) ∧ a_BI L (i + 1) xs B3 s3 ∧ zz s3 56 0 = (1 : Int) ∧ ((1 : Int) = 0 → l3 105 0 = (Int32.ofInt v2).toInt64) ∧ Inv (i + 1) B3 s3 l3) := fun h => w207_0 t2.1 a b _ _ ⟨ha, fun _ => q1, fun _ => ⟨fun _ => q1, fun h2 => absurd h2 (by omega)⟩⟩
  refine w133_0 hB.1 (by omega) a b s l ?_
  refine w134_0 hB.1 (by omega) a b s l ⟨ha, fun h0 => ⟨t1, Or.inr ⟨13, _, rfl, thr (z207 (by omega))⟩⟩, fun h0 => ⟨fun h1 => ⟨t1, Or.inr ⟨13, _, rfl, thr (z207 (by omega))⟩⟩, fun h1 => ?_⟩⟩
  obtain ⟨e1, e2, e3, e4, e4b, e5, e6⟩ := n3 a.toNat (by omega)
  have ea : (a + 1).toNat = a.toNat + 1 := by omega
  have y1 : zz (a_new s B.1 0) 69 a.toNat = zz s 53 a.toNat := (zz_of (t3 69 (by omega)) _).trans e2.symm
  have y2 : zz (a_new s B.1 0) 69 (a.toNat + 1) = zz s 53 (a.toNat + 1) := (zz_of (t3 69 (by omega)) _).trans e3.symm
  have r1 := inR_zz s 53 a.toNat
  have r2 := inR_zz s 53 (a.toNat + 1)
  rw [ea]
  refine ⟨hb, fun h2 => ⟨t1, Or.inr ⟨13, _, rfl, thr ?_⟩⟩, fun h2 => ⟨⟨by omega, by omega⟩, ⟨by omega, by omega⟩, ⟨by omega, by omega⟩, fun h3 => ⟨t1, Or.inr ⟨13, _, rfl, thr ?_⟩⟩, fun h3 => ⟨⟨by omega, by omega⟩, Or.inl ⟨_, s, l, rfl, ok _ ?_⟩⟩⟩⟩
  · refine w207_0 t2.1 a b _ _ ⟨ha, fun _ => q1, fun _ => ⟨fun _ => q1, fun _ => ⟨hb, fun _ => q1, fun h => absurd h (by omega)⟩⟩⟩
  · refine w207_0 t2.1 a b _ _ ⟨ha, fun _ => q1, fun _ => ⟨fun _ => q1, fun _ => ⟨hb, fun _ => q1, fun _ => ⟨⟨by omega, by omega⟩, ⟨by omega, by omega⟩, ?_⟩⟩⟩⟩
    rw [ea, y1, y2]
    exact ⟨⟨by omega, by omega⟩, fun h => absurd h (by omega), fun _ => q1⟩
  · refine w207_0 hB.1 a b _ _ ⟨ha, fun h => absurd h0 (by omega), fun _ => ⟨fun h => absurd h (by omega), fun _ => ⟨hb, fun h => absurd h2 (by omega), fun _ => ⟨⟨by omega, by omega⟩, ⟨by omega, by omega⟩, ?_⟩⟩⟩⟩
    rw [ea, ← e2, ← e3]
    refine ⟨⟨by omega, by omega⟩, fun _ => ⟨⟨by omega, by omega⟩, ?_⟩, fun h => absurd h (by omega)⟩
    rw [← e6 _ (by omega) (by omega)]
    exact okq _
