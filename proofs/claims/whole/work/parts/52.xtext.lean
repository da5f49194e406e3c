/-! THE READER'S TEXT -/
theorem natc (p : Nat) : ((p : Int)).toNat = p := Int.toNat_natCast p
theorem x_blanks_loop {d : Nat} {B : aH} (hB : a_Can B) (hd : 1 ≤ d) {t : Nat → Int} {n : Nat} {s : aZ} (l : aZL) (hT : XT t n s) (x1 : Int) : ∀ (k p : Nat) (r : Bool) (x3 : Int), p + k = n → x3 = (if r = true then 1 else 0) → a_W d 26 4 [.ref 1, iv x1, iv (p : Int), iv x3] [] (mkH B s l) (fun q => q = (.inl (some (iv (nb t k p r : Nat))), mkH B s l)) := by
  obtain ⟨h1, h2, h3⟩ := hT
  intro k
  induction k with
  | zero =>
    intro p r x3 hp hx
    refine w26_4 hB (by omega) x1 _ x3 s l ⟨⟨by omega, by omega⟩, fun _ => rfl, fun h => absurd h (by omega)⟩
  | succ k ih =>
    intro p r x3 hp hx
    obtain ⟨b1, b2⟩ := h3 p (by omega)
    have e1 : (p : Int) + 1 = ((p + 1 : Nat) : Int) := by omega
    have z10 : sb (t p) = 10 ↔ t p = 10 := sb_c b2 10 (by decide)
    have z35 : sb (t p) = 35 ↔ t p = 35 := sb_c b2 35 (by decide)
    have go : ∀ (r2 : Bool) (y : Int), y = (if r2 = true then 1 else 0) → nb t (k + 1) p r = nb t k (p + 1) r2 → a_W d 26 4 [.ref 1, iv x1, iv ((p : Int) + 1), iv y] [] (mkH B s l) (fun q => q = (.inl (some (iv (nb t (k + 1) p r : Nat))), mkH B s l)) := by
      intro r2 y hy hn
      rw [e1, hn]
      exact ih (p + 1) r2 y (by omega) hy
    refine w26_4 hB (by omega) x1 _ x3 s l ⟨⟨by omega, by omega⟩, fun h => absurd h (by omega), fun _ => ⟨?_, fun hx3 => ⟨⟨by omega, by omega⟩, ?_⟩, fun hx3 => ⟨⟨by omega, by omega⟩, ?_⟩⟩⟩
    · subst hx
      cases r <;> decide
    · have hr : r = true := by
        cases r
        · exact absurd hx hx3
        · rfl
      subst hr
      rw [natc, b1]
      exact ⟨fun h => go false 0 rfl (nb_nl (z10.mp h)), fun h => go true 1 rfl (nb_in (fun e => h (z10.mpr e)))⟩
    · have hr : r = false := by
        cases r
        · rfl
        · rw [hx3] at hx
          exact absurd hx (by decide)
      subst hr
      rw [natc, b1, z27_sb b2]
      refine ⟨fun h => ⟨fun h2 => go false 0 rfl (nb_blank h), fun h2 => go true 1 rfl (nb_hash (z35.mp h2))⟩, fun h => ⟨fun h2 => ?_, fun h2 => go true 1 rfl (nb_hash (z35.mp h2))⟩⟩
      rw [nb_none h (fun e => h2 (z35.mpr e))]
theorem x_blanks {d : Nat} {B : aH} (hB : a_Can B) (hd : 1 ≤ d) {t : Nat → Int} {n : Nat} {s : aZ} (l : aZL) (hT : XT t n s) (p : Nat) (hp : p ≤ n) : a_W d 26 0 [.ref 1, iv (p : Int), .retAddr 0, .retAddr 0] [] (mkH B s l) (fun q => q = (.inl (some (iv (nb t (n - p) p false : Nat))), mkH B s l)) :=
  w26_0 hB _ s l (x_blanks_loop hB hd l hT _ (n - p) p false 0 (by omega) rfl)
theorem x_word_loop {d : Nat} {B : aH} (hB : a_Can B) (hd : 1 ≤ d) {t : Nat → Int} {n : Nat} {s : aZ} (l : aZL) (hT : XT t n s) (x1 : Int) : ∀ (k p : Nat), p + k = n → a_W d 33 2 [.ref 1, iv x1, iv (p : Int)] [] (mkH B s l) (fun q => q = (.inl (some (iv (wd t k p : Nat))), mkH B s l)) := by
  obtain ⟨h1, h2, h3⟩ := hT
  intro k
  induction k with
  | zero =>
    intro p hp
    refine w33_2 hB (by omega) x1 _ s l ⟨⟨by omega, by omega⟩, fun _ => rfl, fun h => absurd h (by omega)⟩
  | succ k ih =>
    intro p hp
    obtain ⟨b1, b2⟩ := h3 p (by omega)
    have e1 : (p : Int) + 1 = ((p + 1 : Nat) : Int) := by omega
    have z39 : sb (t p) = 39 ↔ t p = 39 := sb_c b2 39 (by decide)
    have go : (z31 (t p) ≠ 0 ∨ z34 (t p) ≠ 0 ∨ t p = 39) → a_W d 33 2 [.ref 1, iv x1, iv ((p : Int) + 1)] [] (mkH B s l) (fun q => q = (.inl (some (iv (wd t (k + 1) p : Nat))), mkH B s l)) := by
      intro h
      rw [e1]
      unfold wd
      rw [if_pos h]
      exact ih (p + 1) (by omega)
    refine w33_2 hB (by omega) x1 _ s l ⟨⟨by omega, by omega⟩, fun h => absurd h (by omega), fun _ => ⟨⟨by omega, by omega⟩, ?_⟩⟩
    rw [natc, b1, z31_sb b2, z34_sb b2]
    refine ⟨fun h => go (Or.inl h), fun h => ⟨fun g => go (Or.inr (Or.inl g)), fun g => ⟨fun e => ?_, fun e => go (Or.inr (Or.inr (z39.mp e)))⟩⟩⟩
    unfold wd
    rw [if_neg (by rintro (q | q | q); exact q h; exact q g; exact e (z39.mpr q))]
theorem x_word {d : Nat} {B : aH} (hB : a_Can B) (hd : 1 ≤ d) {t : Nat → Int} {n : Nat} {s : aZ} (l : aZL) (hT : XT t n s) (p : Nat) (hp : p ≤ n) : a_W d 33 0 [.ref 1, iv (p : Int), .retAddr 0] [] (mkH B s l) (fun q => q = (.inl (some (iv (wd t (n - p) p : Nat))), mkH B s l)) :=
  w33_0 hB _ s l (x_word_loop hB hd l hT _ (n - p) p (by omega))
/-- only these fields of the text's cell change -/
def Fr1 (js : List Nat) (s s2 : aZ) : Prop := (∀ k, k ≠ 1 → s2 k = s k) ∧ ∀ j, j ∉ js → zz s2 1 j = zz s 1 j
theorem Fr1.rf (js : List Nat) (s : aZ) : Fr1 js s s := ⟨fun _ _ => rfl, fun _ _ => rfl⟩
theorem Fr1.tr {js : List Nat} {s1 s2 s3 : aZ} (a : Fr1 js s1 s2) (b : Fr1 js s2 s3) : Fr1 js s1 s3 := ⟨fun k hk => (b.1 k hk).trans (a.1 k hk), fun j hj => (b.2 j hj).trans (a.2 j hj)⟩
theorem Fr1.zu {js : List Nat} (s : aZ) (j : Nat) (v : Int) (hj : j ∈ js) : Fr1 js s (zu s 1 j v) := ⟨fun k hk => zu_ne _ _ _ _ _ hk, fun i hi => zz_ne _ _ _ _ _ _ (fun e => hi (e.2 ▸ hj))⟩
theorem XT.fr {t : Nat → Int} {n : Nat} {s s2 : aZ} {js : List Nat} (h : XT t n s) (f : Fr1 js s s2) (h3 : 3 ∉ js) : XT t n s2 := ⟨(f.2 3 h3).trans h.1, h.2.1, fun j hj => ⟨(zz_of (f.1 2 (by decide)) j).trans (h.2.2 j hj).1, (h.2.2 j hj).2⟩⟩
theorem x_num_loop {d : Nat} {B : aH} (hB : a_Can B) (hd : 3 ≤ d) {t : Nat → Int} {n : Nat} (l : aZL) : ∀ (k p : Nat) (s : aZ) (v : Int), p + k = n → XT t n s → zz s 1 8 = p → zz s 1 9 = v → 0 ≤ v ∧ v ≤ 50 → zz s 1 10 = 0 → a_W d 41 5 [.ref 1] [] (mkH B s l) (fun q => ∃ s2, q = (.inl none, mkH B s2 l) ∧ Fr1 [6, 8, 9, 10, 11] s s2 ∧ zz s2 1 8 = (dgE t k p : Nat) ∧ zz s2 1 9 = dgV t k p v ∧ (dgV t k p v ≤ 49 → zz s2 1 6 = 3 ∧ zz s2 1 10 = 0 ∧ zz s2 1 11 = zz s 1 11) ∧ (49 < dgV t k p v → zz s2 1 6 = 0 ∧ zz s2 1 10 = 8 ∧ zz s2 1 11 = zz s 1 7)) := by
  intro k
  have stop : ∀ (s : aZ) (v : Int) (p : Nat), zz s 1 8 = p → zz s 1 9 = v → zz s 1 10 = 0 → (v ≤ 49 → ∃ s2, ((.inl none, (mkH B (zu s 1 6 3) l)) : aR) = (.inl none, mkH B s2 l) ∧ Fr1 [6, 8, 9, 10, 11] s s2 ∧ zz s2 1 8 = (p : Nat) ∧ zz s2 1 9 = v ∧ (v ≤ 49 → zz s2 1 6 = 3 ∧ zz s2 1 10 = 0 ∧ zz s2 1 11 = zz s 1 11) ∧ (49 < v → zz s2 1 6 = 0 ∧ zz s2 1 10 = 8 ∧ zz s2 1 11 = zz s 1 7)) ∧ (49 < v → ∃ s2, ((.inl none, (mkH B (zu (zu (zu (zu s 1 6 3) 1 10 8) 1 11 (zz s 1 7)) 1 6 0) l)) : aR) = (.inl none, mkH B s2 l) ∧ Fr1 [6, 8, 9, 10, 11] s s2 ∧ zz s2 1 8 = (p : Nat) ∧ zz s2 1 9 = v ∧ (v ≤ 49 → zz s2 1 6 = 3 ∧ zz s2 1 10 = 0 ∧ zz s2 1 11 = zz s 1 11) ∧ (49 < v → zz s2 1 6 = 0 ∧ zz s2 1 10 = 8 ∧ zz s2 1 11 = zz s 1 7)) := by
    intro s v p h8 h9 h10
    refine ⟨fun hv => ⟨_, rfl, Fr1.zu _ _ _ (by decide), ?_, ?_, fun _ => ⟨?_, ?_, ?_⟩, fun h => absurd h (by omega)⟩, fun hv => ⟨_, rfl, ((((Fr1.zu _ _ _ (by decide)).tr (Fr1.zu _ _ _ (by decide))).tr (Fr1.zu _ _ _ (by decide))).tr (Fr1.zu _ _ _ (by decide))), ?_, ?_, fun h => absurd h (by omega), fun _ => ⟨?_, ?_, ?_⟩⟩⟩
    · rw [zz_ne _ _ _ _ _ _ (by decide)]; exact h8
    · rw [zz_ne _ _ _ _ _ _ (by decide)]; exact h9
    · exact zz_same _ _ _ ⟨by decide, by decide⟩
    · rw [zz_ne _ _ _ _ _ _ (by decide)]; exact h10
    · rw [zz_ne _ _ _ _ _ _ (by decide)]
    · rw [zz_ne _ _ _ _ _ _ (by decide), zz_ne _ _ _ _ _ _ (by decide), zz_ne _ _ _ _ _ _ (by decide), zz_ne _ _ _ _ _ _ (by decide)]; exact h8
    · rw [zz_ne _ _ _ _ _ _ (by decide), zz_ne _ _ _ _ _ _ (by decide), zz_ne _ _ _ _ _ _ (by decide), zz_ne _ _ _ _ _ _ (by decide)]; exact h9
    · exact zz_same _ _ _ ⟨by decide, by decide⟩
    · rw [zz_ne _ _ _ _ _ _ (by decide), zz_ne _ _ _ _ _ _ (by decide)]; exact zz_same _ _ _ ⟨by decide, by decide⟩
    · rw [zz_ne _ _ _ _ _ _ (by decide)]; exact zz_same _ _ _ (inR_zz _ _ _)
  induction k with
  | zero =>
    intro p s v hp hT h8 h9 hv h10
    obtain ⟨k1, k2⟩ := stop s v p h8 h9 h10
    refine w41_5 hB (by omega) s l ⟨fun _ => ⟨fun h => k1 (by omega), fun h => ⟨fun h2 => absurd h10 h2, fun _ => k2 (by omega)⟩⟩, fun h => absurd h (by have := hT.1; omega)⟩
  | succ k ih =>
    intro p s v hp hT h8 h9 hv h10
    have hT' := hT
    obtain ⟨h1, h2, h3⟩ := hT
    obtain ⟨b1, b2⟩ := h3 p (by omega)
    have ep : (zz s 1 8).toNat = p := by omega
    refine w41_5 hB (by omega) s l ⟨fun h => absurd h (by omega), fun _ => ⟨⟨by omega, by omega⟩, ?_⟩⟩
    rw [ep, b1, z34_sb b2]
    refine ⟨fun hz => ?_, fun hz => ?_⟩
    · obtain ⟨k1, k2⟩ := stop s v p h8 h9 h10
      unfold dgE dgV
      rw [if_neg (fun h => h hz), if_neg (fun h => h hz)]
      exact ⟨fun h => k1 (by omega), fun h => ⟨fun h2 => absurd h10 h2, fun _ => k2 (by omega)⟩⟩
    · have hd9 := (z34_iff _).mp hz
      have esb : sb (t p) = t p := by unfold sb; omega
      rw [esb, h9]
      refine ⟨⟨by omega, by omega⟩, ?_⟩
      unfold dgE dgV
      rw [if_pos hz, if_pos hz]
      have hf : Fr1 [6, 8, 9, 10, 11] s (zu (zu s 1 9 (min ((v * 10 + t p) - 48) 50)) 1 8 (zz s 1 8 + 1)) := (Fr1.zu _ _ _ (by decide)).tr (Fr1.zu _ _ _ (by decide))
      refine a_W.imp (ih (p + 1) _ (min ((v * 10 + t p) - 48) 50) (by omega) (hT'.fr hf (by decide)) ?_ ?_ (by omega) ?_) ?_
      · rw [zz_same _ _ _ ⟨by omega, by omega⟩]
        omega
      · rw [zz_ne _ _ _ _ _ _ (by decide)]
        exact zz_same _ _ _ ⟨by omega, by omega⟩
      · rw [zz_ne _ _ _ _ _ _ (by decide), zz_ne _ _ _ _ _ _ (by decide)]
        exact h10
      · rintro _ ⟨s2, rfl, f, c1, c2, c3, c4⟩
        refine ⟨s2, rfl, hf.tr f, c1, c2, fun h => ?_, fun h => ?_⟩
        · obtain ⟨g1, g2, g3⟩ := c3 h
          refine ⟨g1, g2, g3.trans ?_⟩
          rw [zz_ne _ _ _ _ _ _ (by decide), zz_ne _ _ _ _ _ _ (by decide)]
        · obtain ⟨g1, g2, g3⟩ := c4 h
          refine ⟨g1, g2, g3.trans ?_⟩
          rw [zz_ne _ _ _ _ _ _ (by decide), zz_ne _ _ _ _ _ _ (by decide)]
