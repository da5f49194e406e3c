/-! THE REFERENCE READS A WORD -/
def LW (m : Nat) (f : Nat → Int) (k : Nat) (l l2 : aZL) : Prop := (∀ q, q < 3 → l2 74 (3 * m + q) = pkA f q k) ∧ (∀ r, ¬ (3 * m ≤ r ∧ r < 3 * m + 3) → l2 74 r = l 74 r) ∧ ∀ k2, k2 ≠ 74 → l2 k2 = l k2
theorem pkA_congr {f g : Nat → Int} (q : Nat) : ∀ k, (∀ j, j < k → f j = g j) → pkA f q k = pkA g q k := by
  intro k
  induction k with
  | zero => intro _; rfl
  | succ k ih =>
    intro h
    unfold pkA
    rw [ih (fun j hj => h j (by omega)), h k (Nat.lt_succ_self _)]
theorem m_w_zero {d : Nat} {B : aH} (hB : a_Can B) (s : aZ) (l : aZL) (b m : Nat) (h26 : zz s 56 26 = m) (hm : m < 6002) (f : Nat → Int) (Q : aR → Prop) (K : ∀ l2, LW m f 0 l l2 → a_W d 154 29 [.ref 56, iv (b : Int), iv (b : Int), iv (3 : Nat), .retAddr 0, .retAddr 0] [] (mkH B s l2) Q) : a_W d 154 0 [.ref 56, iv (b : Int), .retAddr 0, .retAddr 0, .retAddr 0, .retAddr 0] [] (mkH B s l) Q := by
  have loop : ∀ (k q : Nat) (l2 : aZL), q + k = 3 → (∀ r, r < q → l2 74 (3 * m + r) = 0) → (∀ r, ¬ (3 * m ≤ r ∧ r < 3 * m + q) → l2 74 r = l 74 r) → (∀ k2, k2 ≠ 74 → l2 k2 = l k2) → a_W d 154 4 [.ref 56, iv (b : Int), iv (b : Int), iv (q : Int), .retAddr 0, .retAddr 0] [] (mkH B s l2) Q := by
    intro k
    induction k with
    | zero =>
      intro q l2 hq k1 k2 k3
      have hq3 : q = 3 := by omega
      subst hq3
      exact w154_4 hB _ _ _ s l2 ⟨⟨by omega, by omega⟩, fun _ => K l2 ⟨k1, k2, k3⟩, fun h => absurd h (by omega)⟩
    | succ k ih =>
      intro q l2 hq k1 k2 k3
      refine w154_4 hB _ _ _ s l2 ⟨⟨by omega, by omega⟩, fun h => absurd h (by omega), fun _ => ⟨⟨by omega, by omega⟩, ?_⟩⟩
      rw [h26, show (3 * (m : Int) + (q : Int)).toNat = 3 * m + q by omega, show (q : Int) + 1 = ((q + 1 : Nat) : Int) by omega]
      refine ih (q + 1) _ (by omega) (fun r hr => ?_) (fun r hr => ?_) (fun k2 hk => ?_)
      · unfold a_up
        rw [if_pos rfl]
        by_cases e : r = q
        · rw [e, if_pos rfl]
        · rw [if_neg (by omega)]
          exact k1 r (by omega)
      · unfold a_up
        rw [if_pos rfl, if_neg (by omega)]
        exact k2 r (by omega)
      · unfold a_up
        rw [if_neg hk]
        exact k3 k2 hk
  exact w154_0 hB _ s l (loop 3 0 l rfl (fun r hr => absurd hr (Nat.not_lt_zero _)) (fun _ _ => rfl) (fun _ _ => rfl))
theorem m_w_loop {d : Nat} {B : aH} (hB : a_Can B) (hd : 1 ≤ d) {t : Nat → Int} {n : Nat} {s : aZ} (hT : MT t n s) (h22 : zz s 56 22 = 0) (b m : Nat) (h26 : zz s 56 26 = m) (hm : m < 6002) (l0 : aZL) (x3 : Int) (Q : aR → Prop) : ∀ (k j : Nat) (l : aZL), b + j + k = n → LW m (fun i => t (b + i)) (min j 24) l0 l → (∀ l2, wd t k (b + j) ≤ b + 24 → LW m (fun i => t (b + i)) (min (wd t k (b + j) - b) 24) l0 l2 → a_W d 154 113 [.ref 56, iv (b : Int), iv (wd t k (b + j) : Nat), iv x3, .retAddr 0, .retAddr 0] [] (mkH B s l2) Q) → (∀ l2, b + 24 < wd t k (b + j) → LW m (fun i => t (b + i)) (min (wd t k (b + j) - b) 24) l0 l2 → a_W d 154 113 [.ref 56, iv (b : Int), iv (wd t k (b + j) : Nat), iv x3, .retAddr 0, .retAddr 0] [] (mkH B (zu (zu s 56 22 8) 56 23 (zz s 56 25)) l2) Q) → a_W d 154 29 [.ref 56, iv (b : Int), iv ((b + j : Nat) : Int), iv x3, .retAddr 0, .retAddr 0] [] (mkH B s l) Q := by
  have h8 := hT.2.1
  have h24 := hT.1
  intro k
  have stop : ∀ (j : Nat) (l : aZL) (e : Nat), e = b + j → b + j ≤ n → LW m (fun i => t (b + i)) (min j 24) l0 l → (∀ l2, e ≤ b + 24 → LW m (fun i => t (b + i)) (min (e - b) 24) l0 l2 → a_W d 154 113 [.ref 56, iv (b : Int), iv (e : Nat), iv x3, .retAddr 0, .retAddr 0] [] (mkH B s l2) Q) → (∀ l2, b + 24 < e → LW m (fun i => t (b + i)) (min (e - b) 24) l0 l2 → a_W d 154 113 [.ref 56, iv (b : Int), iv (e : Nat), iv x3, .retAddr 0, .retAddr 0] [] (mkH B (zu (zu s 56 22 8) 56 23 (zz s 56 25)) l2) Q) → (inR (((b + j : Nat) : Int) - (b : Int)) ∧ (((((b + j : Nat) : Int) - (b : Int)) ≤ 24 → a_W d 154 113 [.ref 56, iv (b : Int), iv ((b + j : Nat) : Int), iv x3, .retAddr 0, .retAddr 0] [] (mkH B s l) Q) ∧ (24 < (((b + j : Nat) : Int) - (b : Int)) → (((zz s 56 22) ≤ 0 → a_W d 154 113 [.ref 56, iv (b : Int), iv ((b + j : Nat) : Int), iv x3, .retAddr 0, .retAddr 0] [] (mkH B (zu (zu s 56 22 8) 56 23 (zz s 56 25)) l) Q) ∧ (0 < (zz s 56 22) → a_W d 154 113 [.ref 56, iv (b : Int), iv ((b + j : Nat) : Int), iv x3, .retAddr 0, .retAddr 0] [] (mkH B s l) Q))))) := by
    intro j l e he hj hL K1 K2
    subst he
    have ej : b + j - b = j := by omega
    rw [ej] at K1 K2
    exact ⟨⟨by omega, by omega⟩, fun h => K1 l (by omega) hL, fun h => ⟨fun _ => K2 l (by omega) hL, fun h2 => absurd h2 (by omega)⟩⟩
  induction k with
  | zero =>
    intro j l hj hL K1 K2
    have eb : bm t n (b + j) = -1 := by unfold bm; rw [if_neg (by omega)]
    refine w154_29 hB (by omega) _ _ x3 s l ⟨⟨by omega, by omega⟩, by omega, by omega, ?_⟩
    rw [mby_eq hT, eb]
    exact ⟨fun h => absurd rfl h, fun _ => ⟨fun h => absurd rfl h, fun _ => ⟨fun _ => stop j l (b + j) rfl (by omega) hL K1 K2, fun h => absurd h (by decide)⟩⟩⟩
  | succ k ih =>
    intro j l hj hL K1 K2
    have hr := (hT.2.2 (b + j) (by omega)).2
    have eb : bm t n (b + j) = t (b + j) := by unfold bm; rw [if_pos (by omega)]
    have go : (z31 (t (b + j)) ≠ 0 ∨ z34 (t (b + j)) ≠ 0 ∨ t (b + j) = 39) → a_W d 154 61 [.ref 56, iv (b : Int), iv ((b + j : Nat) : Int), iv x3, .retAddr 0, .retAddr 0] [] (mkH B s l) Q := by
      intro h
      have ew : wd t (k + 1) (b + j) = wd t k (b + (j + 1)) := by
        show (if _ then _ else _) = _
        rw [if_pos h]
        rfl
      rw [ew] at K1 K2
      have nxt : ∀ l2, LW m (fun i => t (b + i)) (min (j + 1) 24) l0 l2 → a_W d 154 89 [.ref 56, iv (b : Int), iv ((b + j : Nat) : Int), iv x3, .retAddr 0, .retAddr 0] [] (mkH B s l2) Q := by
        intro l2 h2
        refine w154_89 hB _ _ x3 s l2 ?_
        rw [show ((b + j : Nat) : Int) + 1 = ((b + (j + 1) : Nat) : Int) by omega]
        exact ih (j + 1) l2 (by omega) h2 K1 K2
      refine w154_61 hB (by omega) _ _ x3 s l ⟨⟨by omega, by omega⟩, fun h24 => nxt l ?_, fun h24 => ⟨⟨by omega, by omega⟩, by omega, ⟨by omega, by omega⟩, by omega, ?_⟩⟩
      · rw [show min (j + 1) 24 = min j 24 by omega]
        exact hL
      · have ej : ((b + j : Nat) : Int) - (b : Int) = (j : Int) := by omega
        rw [ej, h26, natc, (hT.2.2 (b + j) (by omega)).1, show (3 * (m : Int) + (j : Int) / 9).toNat = 3 * m + j / 9 by omega]
        refine nxt _ ?_
        obtain ⟨q1, q2, q3⟩ := hL
        rw [show min j 24 = j by omega] at q1
        rw [show min (j + 1) 24 = j + 1 by omega]
        refine ⟨fun q hq => ?_, fun r hr => ?_, fun k2 hk => ?_⟩
        · unfold a_up pkA
          rw [if_pos rfl]
          by_cases e : j / 9 = q
          · rw [if_pos e, if_pos (by rw [e]), e, q1 q hq]
            rfl
          · rw [if_neg e, if_neg (by omega)]
            exact q1 q hq
        · unfold a_up
          rw [if_pos rfl, if_neg (by omega)]
          exact q2 r hr
        · unfold a_up
          rw [if_neg hk]
          exact q3 k2 hk
    refine w154_29 hB (by omega) _ _ x3 s l ⟨⟨by omega, by omega⟩, by omega, by omega, ?_⟩
    rw [mby_eq hT, eb, z153_31, z155_34]
    refine ⟨fun h => go (Or.inl h), fun h1 => ⟨fun h => go (Or.inr (Or.inl h)), fun h2 => ⟨fun h3 => ?_, fun h => go (Or.inr (Or.inr h))⟩⟩⟩
    have ew : wd t (k + 1) (b + j) = b + j := by
      show (if _ then _ else _) = _
      rw [if_neg (by rintro (q | q | q); exact q h1; exact q h2; exact h3 q)]
    rw [ew] at K1 K2
    exact stop j l (b + j) rfl (by omega) hL K1 K2
def MLF (m : Nat) (l l2 : aZL) : Prop := (∀ r, ¬ (3 * m ≤ r ∧ r < 3 * m + 3) → l2 74 r = l 74 r) ∧ ∀ k, k ≠ 74 → k ≠ 63 → l2 k = l k
theorem LW.ln {m : Nat} {t : Nat → Int} {b k : Nat} {l l2 : aZL} (h : LW m (fun i => t (b + i)) k l l2) : LN l2 74 m (seg t b k) := by
  intro q hq
  rw [h.1 q hq]
  unfold pkN
  rw [seg_len]
  exact pkA_congr q k (fun j hj => (seg_get t b k j hj).symm)
/-- a word that is no type's -/
theorem m_scanBare {d : Nat} {B : aH} (hB : a_Can B) (hd : 2 ≤ d) {t : Nat → Int} {n : Nat} {s : aZ} (l : aZL) (hT : MT t n s) (p m : Nat) (hp : p < n) (h25 : zz s 56 25 = p) (h26 : zz s 56 26 = m) (hm : m < 6002) (h22 : zz s 56 22 = 0) (hz : z31 (t p) ≠ 0) : a_W d 154 0 [.ref 56, iv (p : Int), .retAddr 0, .retAddr 0, .retAddr 0, .retAddr 0] [] (mkH B s l) (fun q => ∃ s2 l2, q = (.inl none, mkH B s2 l2) ∧ MSP t n p m s s2 ∧ MLF m l l2 ∧ l2 63 = l 63 ∧ (tkF t n p = 0 → LN l2 74 m (seg t p (tkE t n p - p)))) := by
  have h8 := hT.2.1
  have hw := wd_ge t (n - p) p
  have eK : tkK t n p = (if wd t (n - p) p = p + 2 ∧ ((t p = 98 ∧ t (p + 1) = 121) ∨ (t p = 105 ∧ t (p + 1) = 110)) then 23 else 1) := by unfold tkK; rw [if_pos hz]
  have eE : tkE t n p = wd t (n - p) p := by unfold tkE; rw [if_pos hz]
  have eF : tkF t n p = (if p + 24 < wd t (n - p) p then 8 else 0) := by unfold tkF; rw [if_pos hz]
  have b0 : bm t n p = t p := by unfold bm; rw [if_pos hp]
  have k3 : tkK t n p ≠ 3 := by rw [eK]; split <;> decide
  refine m_w_zero hB s l p m h26 hm (fun i => t (p + i)) _ (fun l1 hl1 => ?_)
  refine m_w_loop hB (by omega) hT h22 p m h26 hm l (3 : Nat) _ (n - p) 0 l1 (by omega) hl1 (fun l2 hle hL => ?_) (fun l2 hlt hL => ?_)
  · rw [Nat.add_zero] at hle hL ⊢
    have eF0 : tkF t n p = 0 := by rw [eF, if_neg (by omega)]
    have hln : LN l2 74 m (seg t p (tkE t n p - p)) := by
      rw [eE]
      have := hL.ln
      rw [show min (wd t (n - p) p - p) 24 = wd t (n - p) p - p by omega] at this
      exact this
    have fin : ∀ c : Int, inR c → kM (tkK t n p) = c → ∃ s2 l3, ((.inl none, mkH B (zu (zu s 71 (zz s 56 26).toNat c) 56 25 ((zz s 56 25) + (((wd t (n - p) p : Nat) : Int) - (zz s 56 25)))) l2) : aR) = (.inl none, mkH B s2 l3) ∧ MSP t n p m s s2 ∧ MLF m l l3 ∧ l3 63 = l 63 ∧ (tkF t n p = 0 → LN l3 74 m (seg t p (tkE t n p - p))) := by
      intro c hc hk
      refine ⟨_, _, rfl, MSP.ok c _ hc h26 h25 h22 (by omega) ⟨by omega, by omega⟩ k3 eF0 hk (by rw [eE]; omega), ⟨hL.2.1, fun k q1 q2 => hL.2.2 k q1⟩, hL.2.2 63 (by decide), fun _ => hln⟩
    have e164 : kM (tkK t n p) = 1 → a_W d 154 164 [.ref 56, iv (p : Int), iv (wd t (n - p) p : Nat), iv 1, .retAddr 0, .retAddr 0] [] (mkH B s l2) (fun q => ∃ s2 l3, q = (.inl none, mkH B s2 l3) ∧ MSP t n p m s s2 ∧ MLF m l l3 ∧ l3 63 = l 63 ∧ (tkF t n p = 0 → LN l3 74 m (seg t p (tkE t n p - p)))) := fun hk => w154_164 hB (by omega) _ _ 1 s l2 ⟨by decide, fun h => absurd h (by decide), fun _ => ⟨⟨by omega, by omega⟩, w154_207 hB _ _ _ _ _ _ (fin 1 (by decide) hk)⟩⟩
    have e160 : kM (tkK t n p) = 14 → a_W d 154 160 [.ref 56, iv (p : Int), iv (wd t (n - p) p : Nat), iv 1, .retAddr 0, .retAddr 0] [] (mkH B s l2) (fun q => ∃ s2 l3, q = (.inl none, mkH B s2 l3) ∧ MSP t n p m s s2 ∧ MLF m l l3 ∧ l3 63 = l 63 ∧ (tkF t n p = 0 → LN l3 74 m (seg t p (tkE t n p - p)))) := fun hk => w154_160 hB (by omega) _ _ 1 s l2 ⟨⟨by omega, by omega⟩, by decide, fun _ => w154_207 hB _ _ _ _ _ _ (fin 14 (by decide) hk), fun h => absurd h (by decide)⟩
    refine w154_113 hB (by omega) _ _ _ s l2 ⟨⟨by omega, by omega⟩, fun h => absurd h25.symm h, fun _ => ⟨⟨by omega, by omega⟩, fun hne => e164 ?_, fun h2 => ?_⟩⟩
    · rw [eK, if_neg (by omega)]; rfl
    · have b1 : bm t n (p + 1) = t (p + 1) := by unfold bm; rw [if_pos (by omega)]
      refine a_W.imp (m_next hB (by omega) l2 hT str1048597 p (by omega)) ?_
      rintro _ rfl
      refine ⟨_, s, l2, rfl, ?_⟩
      by_cases g1 : nx t n p [98, 121] = true
      · rw [if_pos g1]
        rw [nx2, b0, b1] at g1
        exact ⟨by decide, fun _ => e160 (by rw [eK, if_pos ⟨by omega, Or.inl g1⟩]; rfl), fun h => absurd h (by decide)⟩
      · rw [if_neg g1]
        rw [nx2, b0, b1] at g1
        refine ⟨by decide, fun h => absurd rfl h, fun _ => a_W.imp (m_next hB (by omega) l2 hT str1048598 p (by omega)) ?_⟩
        rintro _ rfl
        refine ⟨_, s, l2, rfl, ?_⟩
        by_cases g2 : nx t n p [105, 110] = true
        · rw [if_pos g2]
          rw [nx2, b0, b1] at g2
          exact ⟨by decide, fun h => absurd h (by decide), fun _ => e160 (by rw [eK, if_pos ⟨by omega, Or.inr g2⟩]; rfl)⟩
        · rw [if_neg g2]
          rw [nx2, b0, b1] at g2
          exact ⟨by decide, fun _ => e164 (by rw [eK, if_neg (by rintro ⟨-, q | q⟩; exact g1 q; exact g2 q)]; rfl), fun h => absurd rfl h⟩
  · rw [Nat.add_zero] at hlt hL ⊢
    have eF8 : tkF t n p = 8 := by rw [eF, if_pos (by exact hlt)]
    have k25 : zz (zu (zu s 56 22 8) 56 23 (zz s 56 25)) 56 25 = p := by rw [zz_ne _ _ _ _ _ _ (by decide), zz_ne _ _ _ _ _ _ (by decide)]; exact h25
    have k26 : zz (zu (zu s 56 22 8) 56 23 (zz s 56 25)) 56 26 = m := by rw [zz_ne _ _ _ _ _ _ (by decide), zz_ne _ _ _ _ _ _ (by decide)]; exact h26
    refine w154_113 hB (by omega) _ _ _ _ l2 ⟨⟨by omega, by omega⟩, fun h => absurd k25.symm h, fun _ => ⟨⟨by omega, by omega⟩, fun _ => ?_, fun h2 => absurd h2 (by omega)⟩⟩
    refine w154_164 hB (by omega) _ _ 1 _ l2 ⟨by decide, fun h => absurd h (by decide), fun _ => ⟨⟨by omega, by omega⟩, w154_207 hB _ _ _ _ _ _ ?_⟩⟩
    rw [k26, natc, k25, h25]
    refine ⟨_, _, rfl, ⟨fun k q1 q2 q3 => ?_, fun j hj => ?_, fun j hj => ⟨?_, ?_⟩, fun h => absurd h (by rw [eF8]; decide), fun _ => ⟨?_, ?_⟩⟩, ⟨hL.2.1, fun k q1 q2 => hL.2.2 k q1⟩, hL.2.2 63 (by decide), fun h => absurd h (by rw [eF8]; decide)⟩
    · rw [zu_ne _ _ _ _ _ q1, zu_ne _ _ _ _ _ q2, zu_ne _ _ _ _ _ q1, zu_ne _ _ _ _ _ q1]
    · rw [zz_ne _ _ _ _ _ _ (fun q => hj (by rw [q.2]; decide)), zz_ne _ _ _ _ _ _ (by omega), zz_ne _ _ _ _ _ _ (fun q => hj (by rw [q.2]; decide)), zz_ne _ _ _ _ _ _ (fun q => hj (by rw [q.2]; decide))]
    · rw [zz_ne _ _ _ _ _ _ (by omega), zz_ne _ _ _ _ _ _ (by omega), zz_ne _ _ _ _ _ _ (by omega), zz_ne _ _ _ _ _ _ (by omega)]
    · rw [zz_ne _ _ _ _ _ _ (by omega), zz_ne _ _ _ _ _ _ (by omega), zz_ne _ _ _ _ _ _ (by omega), zz_ne _ _ _ _ _ _ (by omega)]
    · rw [zz_ne _ _ _ _ _ _ (by decide), zz_ne _ _ _ _ _ _ (by omega), zz_ne _ _ _ _ _ _ (by decide), zz_same _ _ _ (by decide), eF8]
    · rw [zz_ne _ _ _ _ _ _ (by decide), zz_ne _ _ _ _ _ _ (by omega), zz_same _ _ _ ⟨by omega, by omega⟩]
