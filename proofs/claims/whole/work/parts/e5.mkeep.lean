/-! THE REFERENCE KEEPS A TERM -/
section
variable {B : aH} {ar : Int → Nat} {P : Nat} {rt u h : Nat → Nat}
theorem m_keep (hB : a_Can B) {d : Nat} (hd : 3 ≤ d) (l : aZL) (hP : P ≤ 29000) {m : Nat} (hm : m ≤ 510) {L : List Nat} {s : aZ} (hE : PEm ar P s rt u) (hA : AcP unM P (vwM s) rt h) (h62 : zz s 56 62 = (m : Nat)) (hLm : L.length = m) (h99 : ∀ i, i < m → zz s 99 i = (L.getD i 0 : Nat)) (hL : ∀ k ∈ L, k < P ∧ szT (tK s rt h k) ≤ 40) : a_W d 200 0 [.ref 56, .retAddr 0] [] (mkH B s l) (fun q => ∃ s2, q = (.inl none, mkH B s2 l) ∧ zz s2 56 18 = (m : Nat) ∧ (∀ j, j < m → zz s2 68 j = zz s 98 j) ∧ RwF 69 70 s2 (wrL (L.map (tK s rt h)) []).1 0 0 ∧ (∀ k, k ≠ 56 → (k < 68 ∨ 70 < k) → k ≠ 103 → k ≠ 104 → s2 k = s k) ∧ ∀ j, j ≠ 18 → j ≠ 69 → zz s2 56 j = zz s 56 j) := by
  refine w200_0 hB s l ?_
  rw [h62]
  have h16 := hE.1.1
  have y0 : ∀ c j, (c ≠ 56 ∨ (j ≠ 18 ∧ j ≠ 69)) → zz (zu (zu s 56 18 (m : Int)) 56 69 0) c j = zz s c j := fun c j hc => by rw [zz_ne _ _ _ _ _ _ (by omega), zz_ne _ _ _ _ _ _ (by omega)]
  have yk : ∀ c, c ≠ 56 → (zu (zu s 56 18 (m : Int)) 56 69 0) c = s c := fun c hc => by rw [zu_ne _ _ _ _ _ hc, zu_ne _ _ _ _ _ hc]
  have y18 : zz (zu (zu s 56 18 (m : Int)) 56 69 0) 56 18 = (m : Nat) := by rw [zz_ne _ _ _ _ _ _ (by omega)]; exact zz_same _ _ _ ⟨by omega, by omega⟩
  have y69 : zz (zu (zu s 56 18 (m : Int)) 56 69 0) 56 69 = 0 := zz_same _ _ _ (by decide)
  generalize (zu (zu s 56 18 (m : Int)) 56 69 0) = s1 at *
  have loop : ∀ (r k : Nat) (s2 : aZ), k + r = P → (∀ c, c ≠ 104 → s2 c = s1 c) → (∀ j, j < k → zz s2 104 j = -1) → a_W d 200 15 [.ref 56, iv (k : Int)] [] (mkH B s2 l) (fun q => ∃ s2, q = (.inl none, mkH B s2 l) ∧ zz s2 56 18 = (m : Nat) ∧ (∀ j, j < m → zz s2 68 j = zz s 98 j) ∧ RwF 69 70 s2 (wrL (L.map (tK s rt h)) []).1 0 0 ∧ (∀ k, k ≠ 56 → (k < 68 ∨ 70 < k) → k ≠ 103 → k ≠ 104 → s2 k = s k) ∧ ∀ j, j ≠ 18 → j ≠ 69 → zz s2 56 j = zz s 56 j) := by
    intro r
    induction r with
    | zero =>
      intro k s2 hk hf h104
      have e16 : zz s2 56 16 = (P : Nat) := (zz_of (hf 56 (by decide)) 16).trans ((y0 56 16 (Or.inr ⟨by decide, by decide⟩)).trans h16)
      refine w200_15 hB _ s2 l ⟨⟨by omega, by omega⟩, fun _ => ?_, fun c => absurd c (by omega)⟩
      have z0 : ∀ c j, (c ≠ 69 ∨ j ≠ 0) → zz (zu s2 69 0 0) c j = zz s2 c j := fun c j hc => zz_ne _ _ _ _ _ _ (by omega)
      have z69 : zz (zu s2 69 0 0) 69 0 = ((0 : Nat) : Int) := zz_same _ _ _ (by decide)
      have zk : ∀ c, c ≠ 69 → (zu s2 69 0 0) c = s2 c := fun c hc => zu_ne _ _ _ _ _ hc
      generalize zu s2 69 0 0 = s3 at *
      have q56 : ∀ j, zz s3 56 j = zz s1 56 j := fun j => (z0 56 j (Or.inl (by decide))).trans (zz_of (hf 56 (by decide)) j)
      have qk : ∀ c, c ≠ 56 → c ≠ 69 → c ≠ 104 → s3 c = s c := fun c a1 a2 a3 => (zk c a2).trans ((hf c a3).trans (yk c a1))
      have hw : mWr P s s3 [] := ⟨fun c a b j => zz_of (qk c (by omega) (by omega) (by omega)) j, (q56 16).trans (y0 56 16 (Or.inr ⟨by decide, by decide⟩)), (q56 69).trans y69, fun j hj => by
        rw [z0 104 j (Or.inl (by decide)), h104 j (by omega)]
        exact (if_neg (Nat.not_lt_zero _)).symm⟩
      have key := m_rows (d := d) hB hE hA hP (by omega) l m hm L 0 0 [] s3 (by omega) (Nat.zero_le _) hL (Nat.zero_le _) hw ((q56 62).trans ((y0 56 62 (Or.inr ⟨by decide, by decide⟩)).trans h62)) z69 (fun j hj => by rw [Nat.zero_add, zz_of (qk 99 (by decide) (by decide) (by decide))]; exact h99 j (by omega))
      refine a_W.imp key ?_
      rintro _ ⟨s9, rfl, r1, r2, r3, r4, r5, r6, r7⟩
      refine ⟨s9, rfl, (r7 18 (by decide)).trans ((q56 18).trans y18), fun j hj => ?_, r1, fun c a1 a2 a3 a4 => (r6 c a1 a2 a3 a4).trans (qk c a1 (by omega) a4), fun j a1 a2 => (r7 j a2).trans ((q56 j).trans (y0 56 j (Or.inr ⟨a1, a2⟩)))⟩
      have := r2 j (by omega)
      rw [Nat.zero_add] at this
      rw [this, zz_of (qk 98 (by decide) (by decide) (by decide))]
    | succ r ih =>
      intro k s2 hk hf h104
      have e16 : zz s2 56 16 = (P : Nat) := (zz_of (hf 56 (by decide)) 16).trans ((y0 56 16 (Or.inr ⟨by decide, by decide⟩)).trans h16)
      refine w200_15 hB _ s2 l ⟨⟨by omega, by omega⟩, fun c => absurd c (by omega), fun _ => ⟨⟨by omega, by omega⟩, ?_⟩⟩
      rw [natc, show (k : Int) + 1 = ((k + 1 : Nat) : Int) by omega]
      refine ih (k + 1) _ (by omega) (fun c hc => (zu_ne _ _ _ _ _ hc).trans (hf c hc)) (fun j hj => ?_)
      by_cases e : j = k
      · rw [e]; exact zz_same _ _ _ (by decide)
      · rw [zz_ne _ _ _ _ _ _ (by omega)]; exact h104 j (by omega)
  exact loop P 0 s1 (by omega) (fun _ _ => rfl) (fun j hj => absurd hj (Nat.not_lt_zero _))
end
