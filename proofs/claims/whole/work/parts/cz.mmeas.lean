/-! THE REFERENCE MEASURES WHAT IS WRITTEN -/
theorem m_meas143 {B : aH} (hB : a_Can B) {d : Nat} (hd : 2 ≤ d) (l : aZL) (x1 x2 : Int) {W : Nat} (hW : W ≤ 12100) {Q : aR → Prop} {s : aZ} (h33 : zz s 56 33 = (W : Nat)) (hf : zz s 56 22 = 0) (hno : (∀ j, j < W → ¬ (40 < zz s 80 j ∨ 12 < zz s 81 j)) → ∀ k : Nat, a_W d 143 90 [.ref 56, iv x1, iv x2, iv (k : Int)] [] (mkH B s l) Q) (hyes : (∃ j, j < W ∧ (40 < zz s 80 j ∨ 12 < zz s 81 j)) → ∀ k : Nat, a_W d 143 90 [.ref 56, iv x1, iv x2, iv (k : Int)] [] (mkH B (zu (zu s 56 22 8) 56 23 (zz s 72 0)) l) Q) : ∀ (r k : Nat), k + r = W → (∀ j, j < k → ¬ (40 < zz s 80 j ∨ 12 < zz s 81 j)) → a_W d 143 64 [.ref 56, iv x1, iv x2, iv (k : Int)] [] (mkH B s l) Q := by
  intro r
  induction r with
  | zero =>
    intro k hk hn
    exact w143_64 hB (by omega) _ _ _ s l ⟨⟨by omega, by omega⟩, fun _ => hno (fun j hj => hn j (by omega)) k, fun c => absurd c (by omega)⟩
  | succ r ih =>
    intro k hk hn
    have big : (40 < zz s 80 k ∨ 12 < zz s 81 k) → ∃ (s4 : Nat → Nat → Int32) (l5 : Nat → Nat → Int64), ((.inl none, mkH B (zu (zu s 56 22 8) 56 23 (zz s 72 0)) l) : aR) = (.inl none, mkH B s4 l5) ∧ a_W d 143 64 [.ref 56, iv x1, iv x2, iv ((k : Int) + 1)] [] (mkH B s4 l5) Q := fun hl => by
      have e33 : zz (zu (zu s 56 22 8) 56 23 (zz s 72 0)) 56 33 = (W : Nat) := by rw [zz_ne _ _ _ _ _ _ (by omega), zz_ne _ _ _ _ _ _ (by omega)]; exact h33
      have e22 : zz (zu (zu s 56 22 8) 56 23 (zz s 72 0)) 56 22 = 8 := by rw [zz_ne _ _ _ _ _ _ (by omega)]; exact zz_same _ _ _ (by decide)
      have en := hyes ⟨k, by omega, hl⟩ (k + 1)
      refine ⟨_, l, rfl, ?_⟩
      rw [show (k : Int) + 1 = ((k + 1 : Nat) : Int) by omega]
      exact w143_64 hB (by omega) _ _ _ _ l ⟨⟨by omega, by omega⟩, fun _ => en, fun _ => ⟨fun _ => en, fun c => absurd (e22.symm.trans c) (by decide)⟩⟩
    refine w143_64 hB (by omega) _ _ _ s l ⟨⟨by omega, by omega⟩, fun c => absurd c (by omega), fun _ => ⟨fun c => absurd hf c, fun _ => w183_0 hB (by omega) _ s l ⟨⟨by omega, by omega⟩, ?_⟩⟩⟩
    rw [natc]
    refine ⟨fun c => ⟨fun _ => big (Or.inl c), fun c2 => absurd c2 (by omega)⟩, fun c => ⟨fun c2 => ⟨s, l, rfl, ?_⟩, fun c2 => ⟨fun _ => big (Or.inr c2), fun c3 => absurd c3 (by omega)⟩⟩⟩
    rw [show (k : Int) + 1 = ((k + 1 : Nat) : Int) by omega]
    refine ih (k + 1) (by omega) (fun j hj => ?_)
    by_cases e : j = k
    · rw [e]; omega
    · exact hn j (by omega)
