/-! THE REFERENCE: ONE WRITTEN TYPE TAKES ANOTHER, AHEAD OF WHAT IT HAS -/
def TKS (w x : Nat) (s s2 : aZ) : Prop := zz s2 78 x = zz s 77 w ∧ zz s2 77 w = x ∧ zz s2 79 w = zz s 79 w + 1 ∧ zz s2 80 w = min (zz s 80 w + zz s 80 x) 100000 ∧ zz s2 81 w = (if zz s 81 w ≤ zz s 81 x then zz s 81 x + 1 else zz s 81 w) ∧ (∀ j, j ≠ x → zz s2 78 j = zz s 78 j) ∧ (∀ k j, k ≠ 78 → j ≠ w → zz s2 k j = zz s k j) ∧ ∀ k, k ≠ 77 → k ≠ 78 → k ≠ 79 → k ≠ 80 → k ≠ 81 → s2 k = s k
theorem m_takes {d : Nat} {B : aH} (hB : a_Can B) (s : aZ) (l : aZL) (w x : Nat) (hw : w < 12100) (hx : x < 12100) (h80 : 0 ≤ zz s 80 w ∧ zz s 80 w ≤ 100000) (h80x : 0 ≤ zz s 80 x ∧ zz s 80 x ≤ 100000) (h79 : 0 ≤ zz s 79 w ∧ zz s 79 w ≤ 100000) (h81 : 0 ≤ zz s 81 x ∧ zz s 81 x ≤ 100000) : a_W d 171 0 [.ref 56, iv (w : Int), iv (x : Int), .retAddr 0] [] (mkH B s l) (fun q => ∃ s2, q = (.inl none, mkH B s2 l) ∧ TKS w x s s2) := by
  have key : ∀ (a c : Int), inR a → inR c → a = min (zz s 80 w + zz s 80 x) 100000 → c = (if zz s 81 w ≤ zz s 81 x then zz s 81 x + 1 else zz s 81 w) → TKS w x s (zu (zu (zu (zu (zu s 78 x (zz s 77 w)) 77 w (x : Int)) 79 w (zz s 79 w + 1)) 80 w a) 81 w c) := by
    intro a c ha hc ea ec
    refine ⟨?_, ?_, ?_, ?_, ?_, fun j hj => ?_, fun k j hk hj => ?_, fun k h1 h2 h3 h4 h5 => ?_⟩
    · rw [zz_ne _ _ _ _ _ _ (by omega), zz_ne _ _ _ _ _ _ (by omega), zz_ne _ _ _ _ _ _ (by omega), zz_ne _ _ _ _ _ _ (by omega), zz_same _ _ _ (inR_zz _ _ _)]
    · rw [zz_ne _ _ _ _ _ _ (by omega), zz_ne _ _ _ _ _ _ (by omega), zz_ne _ _ _ _ _ _ (by omega), zz_same _ _ _ ⟨by omega, by omega⟩]
    · rw [zz_ne _ _ _ _ _ _ (by omega), zz_ne _ _ _ _ _ _ (by omega), zz_same _ _ _ ⟨by omega, by omega⟩]
    · rw [zz_ne _ _ _ _ _ _ (by omega), zz_same _ _ _ ha, ea]
    · rw [zz_same _ _ _ hc, ec]
    · rw [zz_ne _ _ _ _ _ _ (by omega), zz_ne _ _ _ _ _ _ (by omega), zz_ne _ _ _ _ _ _ (by omega), zz_ne _ _ _ _ _ _ (by omega), zz_ne _ _ _ _ _ _ (by omega)]
    · rw [zz_ne _ _ _ _ _ _ (by omega), zz_ne _ _ _ _ _ _ (by omega), zz_ne _ _ _ _ _ _ (by omega), zz_ne _ _ _ _ _ _ (by omega), zz_ne _ _ _ _ _ _ (by omega)]
    · rw [zu_ne _ _ _ _ _ h5, zu_ne _ _ _ _ _ h4, zu_ne _ _ _ _ _ h3, zu_ne _ _ _ _ _ h1, zu_ne _ _ _ _ _ h2]
  have r81 := inR_zz s 81 w
  refine w171_0 hB _ _ s l ⟨⟨by omega, by omega⟩, ⟨by omega, by omega⟩, ?_⟩
  rw [natc, natc]
  refine ⟨⟨by omega, by omega⟩, fun h1 => ⟨fun h2 => ⟨_, rfl, key _ _ ⟨by omega, by omega⟩ r81 (by omega) (by rw [if_neg (by omega)])⟩, fun h2 => ⟨_, rfl, key _ _ ⟨by omega, by omega⟩ ⟨by omega, by omega⟩ (by omega) (by rw [if_pos h2])⟩⟩, fun h1 => ⟨fun h2 => ⟨_, rfl, key _ _ (by decide) r81 (by omega) (by rw [if_neg (by omega)])⟩, fun h2 => ⟨_, rfl, key _ _ (by decide) ⟨by omega, by omega⟩ (by omega) (by rw [if_pos h2])⟩⟩⟩
