/-! THE REFERENCE'S BYTES -/
def MT (t : Nat → Int) (n : Nat) (s : aZ) : Prop := zz s 56 24 = n ∧ n ≤ 8000 ∧ ∀ j, j < n → zz s 57 j = t j ∧ 0 ≤ t j ∧ t j < 256
def bm (t : Nat → Int) (n p : Nat) : Int := if p < n then t p else -1
theorem mby_eq {t : Nat → Int} {n : Nat} {s : aZ} (hT : MT t n s) (p : Nat) : mby s (p : Int) = bm t n p := by
  unfold mby bm
  rw [hT.1, natc]
  by_cases h : p < n
  · rw [if_pos (by omega), if_pos h, (hT.2.2 p h).1]
  · rw [if_neg (by omega), if_neg h]
theorem m_blanks_loop {d : Nat} {B : aH} (hB : a_Can B) (hd : 1 ≤ d) {t : Nat → Int} {n : Nat} {s : aZ} (l : aZL) (hT : MT t n s) (x1 : Int) : ∀ k : Nat, (∀ (p : Nat) (u : Value), p + k = n → a_W d 150 4 [.ref 56, iv x1, iv (p : Int), iv 1, u] [] (mkH B s l) (fun q => q = (.inl (some (iv (nb t k p false : Nat))), mkH B s l))) ∧ (∀ (p : Nat) (x4 : Int), p + 1 + k = n → a_W d 150 63 [.ref 56, iv x1, iv (p : Int), iv 1, iv x4] [] (mkH B s l) (fun q => q = (.inl (some (iv (nb t k (p + 1) true : Nat))), mkH B s l))) := by
  have h8 := hT.2.1
  have h24 := hT.1
  have stop : ∀ (p : Nat) (u : Value), p ≤ n → a_W d 150 4 [.ref 56, iv x1, iv (p : Int), iv 0, u] [] (mkH B s l) (fun q => q = (.inl (some (iv (p : Int))), mkH B s l)) := fun p u hp => w150_4 hB (by omega) x1 _ 0 u s l ⟨by decide, fun _ => rfl, fun h => absurd rfl h⟩
  have inner : ∀ k : Nat, (∀ (p : Nat) (u : Value), p + k = n → a_W d 150 4 [.ref 56, iv x1, iv (p : Int), iv 1, u] [] (mkH B s l) (fun q => q = (.inl (some (iv (nb t k p false : Nat))), mkH B s l))) → (∀ (p : Nat) (x4 : Int), 0 < k → p + 1 + (k - 1) = n → a_W d 150 63 [.ref 56, iv x1, iv (p : Int), iv 1, iv x4] [] (mkH B s l) (fun q => q = (.inl (some (iv (nb t (k - 1) (p + 1) true : Nat))), mkH B s l))) → (∀ (p : Nat) (x4 : Int), p + 1 + k = n → a_W d 150 63 [.ref 56, iv x1, iv (p : Int), iv 1, iv x4] [] (mkH B s l) (fun q => q = (.inl (some (iv (nb t k (p + 1) true : Nat))), mkH B s l))) := by
    intro k ho hi p x4 hp
    refine w150_63 hB (by omega) x1 _ 1 x4 s l ⟨⟨by omega, by omega⟩, by omega, by omega, ?_⟩
    rw [show (p : Int) + 1 = ((p + 1 : Nat) : Int) by omega, mby_eq hT]
    cases k with
    | zero =>
      have eb : bm t n (p + 1) = -1 := by unfold bm; rw [if_neg (by omega)]
      rw [eb]
      exact ⟨fun h => absurd h (by decide), fun _ => ⟨fun _ => ⟨by decide, fun h => absurd h (by decide), fun _ => ho (p + 1) _ (by omega)⟩, fun h => absurd rfl h⟩⟩
    | succ k =>
      have eb : bm t n (p + 1) = t (p + 1) := by unfold bm; rw [if_pos (by omega)]
      have hr := (hT.2.2 (p + 1) (by omega)).2
      rw [eb]
      refine ⟨fun h => ⟨by decide, fun h => absurd h (by decide), fun _ => ?_⟩, fun h => ⟨fun h2 => absurd h2 (by omega), fun _ => ?_⟩⟩
      · rw [nb_out h]
        exact ho (p + 1) _ (by omega)
      · rw [nb_in h]
        exact hi (p + 1) x4 (Nat.succ_pos _) (by omega)
  intro k
  induction k with
  | zero =>
    have ho : ∀ (p : Nat) (u : Value), p + 0 = n → a_W d 150 4 [.ref 56, iv x1, iv (p : Int), iv 1, u] [] (mkH B s l) (fun q => q = (.inl (some (iv (nb t 0 p false : Nat))), mkH B s l)) := by
      intro p u hp
      have eb : bm t n p = -1 := by unfold bm; rw [if_neg (by omega)]
      refine w150_4 hB (by omega) x1 _ 1 u s l ⟨by decide, fun h => absurd h (by decide), fun _ => ⟨⟨by omega, by omega⟩, by omega, by omega, ?_⟩⟩
      rw [mby_eq hT, eb]
      exact ⟨fun h => absurd h (by decide), fun _ => ⟨fun h => absurd h (by decide), fun _ => ⟨fun h => absurd h (by decide), fun _ => ⟨fun h => absurd h (by decide), fun _ => ⟨fun _ => stop p _ (by omega), fun h => absurd h (by decide)⟩⟩⟩⟩⟩
    exact ⟨ho, inner 0 ho (fun _ _ h => absurd h (by decide))⟩
  | succ k ih =>
    have ho : ∀ (p : Nat) (u : Value), p + (k + 1) = n → a_W d 150 4 [.ref 56, iv x1, iv (p : Int), iv 1, u] [] (mkH B s l) (fun q => q = (.inl (some (iv (nb t (k + 1) p false : Nat))), mkH B s l)) := by
      intro p u hp
      have eb : bm t n p = t p := by unfold bm; rw [if_pos (by omega)]
      have go : ∀ u2 : Value, z27 (t p) ≠ 0 → a_W d 150 4 [.ref 56, iv x1, iv ((p : Int) + 1), iv 1, u2] [] (mkH B s l) (fun q => q = (.inl (some (iv (nb t (k + 1) p false : Nat))), mkH B s l)) := by
        intro u2 hz
        rw [nb_blank hz, show (p : Int) + 1 = ((p + 1 : Nat) : Int) by omega]
        exact ih.1 (p + 1) u2 (by omega)
      refine w150_4 hB (by omega) x1 _ 1 u s l ⟨by decide, fun h => absurd h (by decide), fun _ => ⟨⟨by omega, by omega⟩, by omega, by omega, ?_⟩⟩
      rw [mby_eq hT, eb]
      refine ⟨fun h => go _ (by unfold z27; omega), fun h1 => ⟨fun h => go _ (by unfold z27; omega), fun h2 => ⟨fun h => go _ (by unfold z27; omega), fun h3 => ⟨fun h => go _ (by unfold z27; omega), fun h4 => ⟨fun h5 => ?_, fun h5 => ?_⟩⟩⟩⟩⟩
      · rw [nb_none (by unfold z27; omega) h5]
        exact stop p _ (by omega)
      · rw [nb_hash h5]
        exact ih.2 p _ (by omega)
    exact ⟨ho, inner (k + 1) ho (fun p x4 _ hp => ih.2 p x4 hp)⟩
theorem m_blanks {d : Nat} {B : aH} (hB : a_Can B) (hd : 1 ≤ d) {t : Nat → Int} {n : Nat} {s : aZ} (l : aZL) (hT : MT t n s) (p : Nat) (hp : p ≤ n) : a_W d 150 0 [.ref 56, iv (p : Int), .retAddr 0, .retAddr 0, .retAddr 0] [] (mkH B s l) (fun q => q = (.inl (some (iv (nb t (n - p) p false : Nat))), mkH B s l)) :=
  w150_0 hB _ s l ((m_blanks_loop hB hd l hT _ (n - p)).1 p _ (by omega))
def nx (t : Nat → Int) (n : Nat) : Nat → List Nat → Bool
  | _, [] => true
  | k, c :: r => decide (bm t n k = (c : Int)) && nx t n (k + 1) r
theorem m_next_loop {d : Nat} {B : aH} (hB : a_Can B) (hd : 1 ≤ d) {t : Nat → Int} {n : Nat} {s : aZ} (l : aZL) (hT : MT t n s) {qs : Nat} {cl : List Nat} (hq : a_StrA qs cl) (k : Nat) (hk : k ≤ 8000) : ∀ (r : List Nat) (i : Nat) (x3 : Int), cl.drop i = r → i ≤ cl.length → (x3 = 0 ∨ x3 = 1) → a_W d 156 5 [.ref 56, iv (k : Int), .ref qs, iv x3, iv (i : Int)] [] (mkH B s l) (fun q => q = (.inl (some (iv (if x3 = 1 ∧ nx t n (k + i) r = true then 1 else 0))), mkH B s l)) := by
  have h8 := hT.2.1
  have h24 := hT.1
  have h100 := hq.2.2.1
  intro r
  induction r with
  | nil =>
    intro i x3 hr hi hx
    have hil : cl.length ≤ i := by
      have := congrArg List.length hr
      rw [List.length_drop] at this
      simp at this
      omega
    refine w156_5 hB (by omega) hq _ x3 _ s l ⟨⟨by omega, by omega⟩, fun _ => ⟨hx, ?_⟩, fun h => absurd h (by omega)⟩
    rcases hx with rfl | rfl
    · rfl
    · rfl
  | cons c r ih =>
    intro i x3 hr hi hx
    have hil : i < cl.length := by
      apply Decidable.byContradiction
      intro hn
      rw [List.drop_eq_nil_of_le (by omega)] at hr
      cases hr
    have hget : cl.getD i 0 = c := by
      have : (cl.drop i)[0]? = some c := by rw [hr]; rfl
      rw [List.getElem?_drop, Nat.add_zero] at this
      rw [List.getD_eq_getElem?_getD, this]
      rfl
    have hr2 : cl.drop (i + 1) = r := by
      have : (cl.drop i).drop 1 = r := by rw [hr]; rfl
      rw [List.drop_drop] at this
      exact this
    have zero : a_W d 156 5 [.ref 56, iv (k : Int), .ref qs, iv 0, iv ((i : Int) + 1)] [] (mkH B s l) (fun q => q = (.inl (some (iv 0)), mkH B s l)) := by
      have := ih (i + 1) 0 hr2 (by omega) (Or.inl rfl)
      rw [if_neg (fun h => absurd h.1 (by decide))] at this
      rw [show (i : Int) + 1 = ((i + 1 : Nat) : Int) by omega]
      exact this
    refine w156_5 hB (by omega) hq _ x3 _ s l ⟨⟨by omega, by omega⟩, fun h => absurd h (by omega), fun _ => ⟨⟨by omega, by omega⟩, fun h0 => ?_, fun h0 => ⟨⟨by omega, by omega⟩, by omega, by omega, ⟨by omega, by omega⟩, ?_⟩⟩⟩
    · rw [if_neg (fun h => absurd h.1 (by omega))]
      exact zero
    · rw [show (k : Int) + (i : Int) = ((k + i : Nat) : Int) by omega, mby_eq hT, natc, hget]
      have hx1 : x3 = 1 := by omega
      refine ⟨fun h => ?_, fun h => ?_⟩
      · rw [if_neg]
        · exact zero
        · rintro ⟨-, hn⟩
          unfold nx at hn
          rw [decide_eq_false h, Bool.false_and] at hn
          exact absurd hn (by decide)
      · have := ih (i + 1) 1 hr2 (by omega) (Or.inr rfl)
        rw [show (i : Int) + 1 = ((i + 1 : Nat) : Int) by omega]
        refine a_W.imp this ?_
        rintro _ rfl
        have e : nx t n (k + i) (c :: r) = nx t n (k + (i + 1)) r := by
          show (decide _ && _) = _
          rw [decide_eq_true h, Bool.true_and]
          rfl
        rw [e, hx1]
theorem m_next {d : Nat} {B : aH} (hB : a_Can B) (hd : 1 ≤ d) {t : Nat → Int} {n : Nat} {s : aZ} (l : aZL) (hT : MT t n s) {qs : Nat} {cl : List Nat} (hq : a_StrA qs cl) (k : Nat) (hk : k ≤ 8000) : a_W d 156 0 [.ref 56, iv (k : Int), .ref qs, .retAddr 0, .retAddr 0] [] (mkH B s l) (fun q => q = (.inl (some (iv (if nx t n k cl = true then 1 else 0))), mkH B s l)) := by
  refine w156_0 hB hq _ s l (a_W.imp (m_next_loop hB hd l hT hq k hk cl 0 1 rfl (Nat.zero_le _) (Or.inr rfl)) ?_)
  rintro _ rfl
  simp
