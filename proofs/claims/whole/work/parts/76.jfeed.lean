/-! BYTES ARE FED ALIKE -/
theorem and255_eq (b : BitVec 32) : (b &&& 255#32).toInt = b.toInt % 256 := by
  have h1 : (b &&& 255#32).toNat = b.toNat % 256 := by
    rw [BitVec.toNat_and]
    exact Nat.and_two_pow_sub_one_eq_mod b.toNat 8
  rw [BitVec.toInt_eq_toNat_cond, h1, BitVec.toInt_eq_toNat_cond]
  have := b.isLt
  split <;> split <;> omega
theorem mb_eq (v : Int) (k : Nat) (x : Int) (hs : ∀ y : Int32, (y >>> (Int32.ofInt x &&& 31)).toBitVec = y.toBitVec.sshiftRight k) : mb v x = ((Int32.ofInt v).toInt / 2 ^ k) % 256 := by
  unfold mb
  rw [Int32.ofInt_toInt]
  have e : (Int32.ofInt v >>> (Int32.ofInt x &&& 31) &&& Int32.ofInt 255).toInt = ((Int32.ofInt v >>> (Int32.ofInt x &&& 31)).toBitVec &&& 255#32).toInt := rfl
  rw [e, and255_eq, hs, BitVec.toInt_sshiftRight, Int.shiftRight_eq_div_pow]
  rfl
theorem eb_eq (v : Int) (k : Nat) (x : Int) (hs : ∀ y : Int32, (y.toUInt32 >>> ((Int32.ofInt x).toUInt32 &&& Int32.toUInt32 31)).toInt32.toBitVec = y.toBitVec >>> k) : eb v x = ((Int32.ofInt v).toBitVec >>> k).toInt.bmod 256 := by
  unfold eb
  rw [Int32.ofInt_toInt, Int8.toInt_toInt32, Int32.toInt_toInt8]
  have e : ((Int32.ofInt v).toUInt32 >>> ((Int32.ofInt x).toUInt32 &&& Int32.toUInt32 31)).toInt32.toInt = ((Int32.ofInt v).toUInt32 >>> ((Int32.ofInt x).toUInt32 &&& Int32.toUInt32 31)).toInt32.toBitVec.toInt := rfl
  rw [e, hs]
theorem eb_mb (v : Int) (i : Nat) : eb v (24 - 8 * ((i % 4 : Nat) : Int)) = sb (mb v (24 - 8 * ((i % 4 : Nat) : Int))) ∧ 0 ≤ mb v (24 - 8 * ((i % 4 : Nat) : Int)) ∧ mb v (24 - 8 * ((i % 4 : Nat) : Int)) < 256 := by
  have key : ∀ (k : Nat) (x : Int), k = 0 ∨ k = 8 ∨ k = 16 ∨ k = 24 → mb v x = ((Int32.ofInt v).toInt / 2 ^ k) % 256 → eb v x = ((Int32.ofInt v).toBitVec >>> k).toInt.bmod 256 → eb v x = sb (mb v x) ∧ 0 ≤ mb v x ∧ mb v x < 256 := by
    intro k x hk h1 h2
    have hN := (Int32.ofInt v).toBitVec.isLt
    have hI : (Int32.ofInt v).toInt = (Int32.ofInt v).toBitVec.toInt := rfl
    rw [hI] at h1
    rw [BitVec.toInt_eq_toNat_cond] at h1 h2
    rw [BitVec.toNat_ushiftRight, Nat.shiftRight_eq_div_pow] at h2
    rw [h1, h2]
    generalize (Int32.ofInt v).toBitVec.toNat = N at hN h1 h2 ⊢
    unfold sb
    rw [Int.bmod_def]
    rcases hk with rfl | rfl | rfl | rfl
    all_goals (simp only [Nat.reducePow, Int.reducePow] at *; refine ⟨?_, ?_, ?_⟩ <;> (split <;> (try split) <;> omega))
  have h4 : i % 4 < 4 := Nat.mod_lt _ (by decide)
  generalize i % 4 = j at h4 ⊢
  match j, h4 with
  | 0, _ => exact key 24 _ (by decide) (mb_eq v 24 _ (fun _ => rfl)) (eb_eq v 24 _ (fun _ => rfl))
  | 1, _ => exact key 16 _ (by decide) (mb_eq v 16 _ (fun _ => rfl)) (eb_eq v 16 _ (fun _ => rfl))
  | 2, _ => exact key 8 _ (by decide) (mb_eq v 8 _ (fun _ => rfl)) (eb_eq v 8 _ (fun _ => rfl))
  | 3, _ => exact key 0 _ (by decide) (mb_eq v 0 _ (fun _ => rfl)) (eb_eq v 0 _ (fun _ => rfl))
/-- the bytes that wait, alike -/
def a_By (f : Nat) (s : aZ) : Prop := zz s 1 2 = f ∧ zz s 56 2 = f ∧ f ≤ 8000 ∧ f % 20 = 0 ∧ ∀ j, j < f → zz s 2 j = sb (zz s 57 j) ∧ 0 ≤ zz s 57 j ∧ zz s 57 j < 256
/-- what feed leaves -/
def FDf (s s3 : aZ) : Prop := (∀ k, k < 106 → k ≠ 1 → k ≠ 2 → k ≠ 56 → k ≠ 57 → s3 k = s k) ∧ (∀ j, j ≠ 2 → zz s3 1 j = zz s 1 j) ∧ ∀ j, j ≠ 2 → j ≠ 0 → zz s3 56 j = zz s 56 j
theorem jF_ok {d L i : Nat} (hd : 2 ≤ d) {xs : Nat → Int32} {Inv : Nat → aH → aZ → aZL → Prop} {B : aH} {s : aZ} {l : aZL} {a b c e g : Int} (hB : a_BI L i xs B s) (f : Nat) (hf : a_By f s)
    (hI : ∀ s3 f3, a_By f3 s3 → f3 ≤ f + 20 → FDf s s3 → Inv (i + 1) B s3 l) : a_JF d L i xs Inv [.ref 0, iv a, iv b, iv c, iv e, iv g] [.ref 56, iv a, iv b, iv c, iv e, iv g, .retAddr 0, .retAddr 0] B s l := by
  obtain ⟨f1, f2, f3, f4, f5⟩ := hf
  by_cases hfull : f = 8000
  · refine a_W.imp (x_feed0 hB.1 (by omega) a b c e g s l (by omega)) ?_
    rintro _ rfl
    refine ⟨0, B, s, l, rfl, hB.up rfl, by decide, a_W.imp (m_feed0 hB.1 a b c e g s l (by omega)) ?_⟩
    rintro _ rfl
    refine ⟨B, _, l, rfl, hB.up (zu_ne _ _ _ _ _ (by decide)), hI _ f ⟨?_, ?_, f3, f4, fun j hj => ?_⟩ (by omega) ⟨fun k _ _ _ h56 _ => zu_ne _ _ _ _ _ h56, fun j _ => zz_ne _ _ _ _ _ _ (by omega), fun j _ h0 => zz_ne _ _ _ _ _ _ (by omega)⟩⟩
    · rw [zz_ne _ _ _ _ _ _ (by decide)]; exact f1
    · rw [zz_ne _ _ _ _ _ _ (by decide)]; exact f2
    · rw [zz_ne _ _ _ _ _ _ (by omega), zz_ne _ _ _ _ _ _ (by omega)]; exact f5 j hj
  · refine a_W.imp (x_feed hB.1 (by omega) a b c e g s l f f1 (by omega)) ?_
    rintro _ ⟨s2, rfl, x1, x2⟩
    refine ⟨1, B, s2, l, rfl, hB.up (x1.2.2.2 _ (by decide) (by decide)), by decide, ?_⟩
    have z56 : zz s2 56 2 = f := (zz_of (x1.2.2.2 56 (by decide) (by decide)) 2).trans f2
    refine a_W.imp (m_feed hB.1 a b c e g s2 l f z56 (by omega)) ?_
    rintro _ ⟨s3, rfl, y1, y2, y3⟩
    have k1 : ∀ k, k ≠ 56 → k ≠ 57 → s3 k = s2 k := y1.2.2.2
    refine ⟨B, s3, l, rfl, hB.up ((k1 _ (by decide) (by decide)).trans (x1.2.2.2 _ (by decide) (by decide))), hI s3 (f + 20) ⟨?_, ?_, by omega, by omega, fun j hj => ?_⟩ (Nat.le_refl _) ⟨fun k _ h1 h2 h3 h4 => (k1 k h3 h4).trans (x1.2.2.2 k h1 h2), fun j hj => (zz_of (k1 1 (by decide) (by decide)) j).trans (x2 j hj), fun j h2 h0 => (y3 j h2 h0).trans (zz_of (x1.2.2.2 56 (by decide) (by decide)) j)⟩⟩
    · rw [zz_of (k1 1 (by decide) (by decide)), x1.1]; omega
    · rw [y1.1]; omega
    · rw [zz_of (k1 2 (by decide) (by decide))]
      by_cases hjf : j < f
      · rw [x1.2.2.1 j hjf, y1.2.2.1 j hjf, zz_of (x1.2.2.2 57 (by decide) (by decide))]
        exact f5 j hjf
      · have ej : j = f + (j - f) := by omega
        rw [ej, x1.2.1 (j - f) (by omega), y1.2.1 (j - f) (by omega)]
        exact eb_mb _ _
