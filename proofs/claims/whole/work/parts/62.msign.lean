/-! printed by wip/am/mk62.py: the reference's numerals and signs -/
/-- the reference's number of a kind -/
def kM (k : Int) : Int := if k = 6 then 7 else if k = 7 then 6 else if k = 8 then 13 else if 9 ≤ k ∧ k ≤ 13 then k - 1 else if 14 ≤ k ∧ k ≤ 22 then k + 6 else if k = 23 then 14 else k
theorem z153_31 (c : Int) : z153 c = z31 c := rfl
theorem z155_34 (c : Int) : z155 c = z34 c := rfl
/-- what a scan of the reference's leaves: token m, at p -/
def MSP (t : Nat → Int) (n p m : Nat) (s s2 : aZ) : Prop := (∀ k, k ≠ 56 → k ≠ 71 → k ≠ 73 → s2 k = s k) ∧ (∀ j, j ∉ [22, 23, 25] → zz s2 56 j = zz s 56 j) ∧ (∀ j, j ≠ m → zz s2 71 j = zz s 71 j ∧ zz s2 73 j = zz s 73 j) ∧ (tkF t n p = 0 → zz s2 71 m = kM (tkK t n p) ∧ zz s2 56 25 = tkE t n p ∧ zz s2 56 22 = 0 ∧ zz s2 56 23 = zz s 56 23 ∧ (tkK t n p = 3 → zz s2 73 m = dgV t (n - p) p 0)) ∧ (tkF t n p ≠ 0 → zz s2 56 22 = tkF t n p ∧ zz s2 56 23 = p)
theorem MSP.ok {t : Nat → Int} {n p m : Nat} {s : aZ} (c W : Int) (hc : inR c) (h26 : zz s 56 26 = m) (h25 : zz s 56 25 = p) (h22 : zz s 56 22 = 0) (hp : p ≤ 8000) (hW : 0 ≤ W ∧ W ≤ 8000) (k3 : tkK t n p ≠ 3) (hF : tkF t n p = 0) (hK : kM (tkK t n p) = c) (hE : (tkE t n p : Int) = p + W) : MSP t n p m s (zu (zu s 71 (zz s 56 26).toNat c) 56 25 (zz s 56 25 + W)) := by
  have em : (zz s 56 26).toNat = m := by omega
  rw [em, h25]
  refine ⟨fun k q1 q2 q3 => ?_, fun j hj => ?_, fun j hj => ⟨?_, ?_⟩, fun _ => ⟨?_, ?_, ?_, ?_, fun q => absurd q k3⟩, fun h => absurd hF h⟩
  · rw [zu_ne _ _ _ _ _ q1, zu_ne _ _ _ _ _ q2]
  · rw [zz_ne _ _ _ _ _ _ (fun q => hj (by rw [q.2]; decide)), zz_ne _ _ _ _ _ _ (by omega)]
  · rw [zz_ne _ _ _ _ _ _ (by omega), zz_ne _ _ _ _ _ _ (by omega)]
  · rw [zz_ne _ _ _ _ _ _ (by omega), zz_ne _ _ _ _ _ _ (by omega)]
  · rw [zz_ne _ _ _ _ _ _ (by omega), zz_same _ _ _ hc, hK]
  · rw [zz_same _ _ _ ⟨by omega, by omega⟩, hE]
  · rw [zz_ne _ _ _ _ _ _ (by decide), zz_ne _ _ _ _ _ _ (by omega)]; exact h22
  · rw [zz_ne _ _ _ _ _ _ (by decide), zz_ne _ _ _ _ _ _ (by omega)]
theorem MSP.bad {t : Nat → Int} {n p m : Nat} {s : aZ} (F : Int) (h25 : zz s 56 25 = p) (hp : p ≤ 8000) (hF : tkF t n p = F) (hF0 : F ≠ 0) (hFr : inR F) : MSP t n p m s (zu (zu s 56 22 F) 56 23 (zz s 56 25)) := by
  rw [h25]
  refine ⟨fun k q1 q2 q3 => ?_, fun j hj => ?_, fun j hj => ⟨?_, ?_⟩, fun h => absurd (hF.symm.trans h) hF0, fun _ => ⟨?_, ?_⟩⟩
  · rw [zu_ne _ _ _ _ _ q1, zu_ne _ _ _ _ _ q1]
  · rw [zz_ne _ _ _ _ _ _ (fun q => hj (by rw [q.2]; decide)), zz_ne _ _ _ _ _ _ (fun q => hj (by rw [q.2]; decide))]
  · rw [zz_ne _ _ _ _ _ _ (by omega), zz_ne _ _ _ _ _ _ (by omega)]
  · rw [zz_ne _ _ _ _ _ _ (by omega), zz_ne _ _ _ _ _ _ (by omega)]
  · rw [zz_ne _ _ _ _ _ _ (by decide), zz_same _ _ _ hFr, hF]
  · rw [zz_same _ _ _ ⟨by omega, by omega⟩]
def mV (t : Nat → Int) : Nat → Nat → Int → Int
  | 0, _, v => v
  | k + 1, p, v => if z34 (t p) ≠ 0 then mV t k (p + 1) (if 49 < v then v else 10 * v + t p - 48) else v
theorem mV_dgV (t : Nat → Int) : ∀ (k p : Nat) (v w : Int), (v = w ∧ 0 ≤ v ∧ v ≤ 49) ∨ (49 < v ∧ 49 < w ∧ v ≤ 499) → (0 ≤ mV t k p v ∧ mV t k p v ≤ 499) ∧ ((mV t k p v = dgV t k p w ∧ mV t k p v ≤ 49) ∨ (49 < mV t k p v ∧ 49 < dgV t k p w)) := by
  intro k
  induction k with
  | zero =>
    intro p v w h
    unfold mV dgV
    omega
  | succ k ih =>
    intro p v w h
    unfold mV dgV
    by_cases hz : z34 (t p) ≠ 0
    · rw [if_pos hz, if_pos hz]
      rw [z34_iff] at hz
      refine ih _ _ _ ?_
      by_cases hv : 49 < v
      · rw [if_pos hv]
        omega
      · rw [if_neg hv]
        omega
    · rw [if_neg hz, if_neg hz]
      omega
theorem m_num_loop {d : Nat} {B : aH} (hB : a_Can B) (hd : 1 ≤ d) {t : Nat → Int} {n : Nat} {s : aZ} (l : aZL) (hT : MT t n s) (h22 : zz s 56 22 = 0) (Q : aR → Prop) : ∀ (k p : Nat) (v : Int), p + k = n → 0 ≤ v ∧ v ≤ 499 → (mV t k p v ≤ 49 → a_W d 161 65 [.ref 56, iv (dgE t k p : Nat), iv (mV t k p v)] [] (mkH B s l) Q) → (49 < mV t k p v → a_W d 161 65 [.ref 56, iv (dgE t k p : Nat), iv (mV t k p v)] [] (mkH B (zu (zu s 56 22 8) 56 23 (zz s 56 25)) l) Q) → a_W d 161 7 [.ref 56, iv (p : Int), iv v] [] (mkH B s l) Q := by
  have h8 := hT.2.1
  have h24 := hT.1
  intro k
  induction k with
  | zero =>
    intro p v hp hv K1 K2
    have eb : bm t n p = -1 := by unfold bm; rw [if_neg (by omega)]
    refine w161_7 hB (by omega) _ v s l ⟨⟨by omega, by omega⟩, by omega, by omega, ?_⟩
    rw [mby_eq hT, eb]
    exact ⟨fun _ => ⟨⟨by omega, by omega⟩, K1, fun h => ⟨fun _ => K2 h, fun h2 => absurd h2 (by omega)⟩⟩, fun h => absurd rfl h⟩
  | succ k ih =>
    intro p v hp hv K1 K2
    have eb : bm t n p = t p := by unfold bm; rw [if_pos (by omega)]
    refine w161_7 hB (by omega) _ v s l ⟨⟨by omega, by omega⟩, by omega, by omega, ?_⟩
    rw [mby_eq hT, eb, z155_34]
    refine ⟨fun hz => ?_, fun hz => ?_⟩
    · have e1 : dgE t (k + 1) p = p := by unfold dgE; rw [if_neg (fun h => h hz)]
      have e2 : mV t (k + 1) p v = v := by unfold mV; rw [if_neg (fun h => h hz)]
      rw [e1, e2] at K1 K2
      exact ⟨⟨by omega, by omega⟩, K1, fun h => ⟨fun _ => K2 h, fun h2 => absurd h2 (by omega)⟩⟩
    · have e1 : dgE t (k + 1) p = dgE t k (p + 1) := by
        show (if _ then _ else _) = _
        rw [if_pos hz]
      have e2 : mV t (k + 1) p v = mV t k (p + 1) (if 49 < v then v else 10 * v + t p - 48) := by
        show (if _ then _ else _) = _
        rw [if_pos hz]
      rw [e1, e2] at K1 K2
      have hd9 := (z34_iff _).mp hz
      rw [show (p : Int) + 1 = ((p + 1 : Nat) : Int) by omega]
      refine ⟨⟨by omega, by omega⟩, fun h => ⟨⟨by omega, by omega⟩, ?_⟩, fun h => ?_⟩
      · rw [if_neg (by omega)] at K1 K2
        rw [natc, (hT.2.2 p (by omega)).1]
        exact ih (p + 1) _ (by omega) (by omega) K1 K2
      · rw [if_pos h] at K1 K2
        exact ih (p + 1) _ (by omega) (by omega) K1 K2
theorem m_scanNum {d : Nat} {B : aH} (hB : a_Can B) (hd : 1 ≤ d) {t : Nat → Int} {n : Nat} {s : aZ} (l : aZL) (hT : MT t n s) (p m : Nat) (hp : p < n) (h25 : zz s 56 25 = p) (h26 : zz s 56 26 = m) (hm : m < 6002) (h22 : zz s 56 22 = 0) (hz1 : ¬ z31 (t p) ≠ 0) (hz : z34 (t p) ≠ 0) : a_W d 161 0 [.ref 56, .retAddr 0, .retAddr 0] [] (mkH B s l) (fun q => ∃ s2, q = (.inl none, mkH B s2 l) ∧ MSP t n p m s s2) := by
  have h8 := hT.2.1
  have h39 : ¬ t p = 39 := fun e => by rw [z34_iff] at hz; omega
  have eK : tkK t n p = 3 := by unfold tkK; rw [if_neg hz1, if_neg h39, if_pos hz]
  have eE : tkE t n p = dgE t (n - p) p := by unfold tkE; rw [if_neg hz1, if_neg h39, if_pos hz]
  have eF : tkF t n p = (if 49 < dgV t (n - p) p 0 then 8 else 0) := by unfold tkF; rw [if_neg hz1, if_neg h39, if_pos hz]
  have hv := mV_dgV t (n - p) p 0 0 (Or.inl ⟨rfl, by decide, by decide⟩)
  have hg := dgE_ge t (n - p) p
  have em : (zz s 56 26).toNat = m := by omega
  refine w161_0 hB s l ?_
  rw [h25]
  refine m_num_loop hB hd l hT h22 _ (n - p) p 0 (by omega) (by decide) (fun h => ?_) (fun h => ?_)
  · refine w161_65 hB (by omega) _ _ s l ⟨⟨by omega, by omega⟩, _, rfl, ?_⟩
    have hF0 : tkF t n p = 0 := by rw [eF, if_neg (by omega)]
    rw [em]
    refine ⟨fun k q1 q2 q3 => ?_, fun j hj => ?_, fun j hj => ⟨?_, ?_⟩, fun _ => ⟨?_, ?_, ?_, ?_, fun _ => ?_⟩, fun h => absurd hF0 h⟩
    · rw [zu_ne _ _ _ _ _ q1, zu_ne _ _ _ _ _ q2, zu_ne _ _ _ _ _ q3]
    · rw [zz_ne _ _ _ _ _ _ (fun q => hj (by rw [q.2]; decide)), zz_ne _ _ _ _ _ _ (by omega), zz_ne _ _ _ _ _ _ (by omega)]
    · rw [zz_ne _ _ _ _ _ _ (by omega), zz_ne _ _ _ _ _ _ (by omega), zz_ne _ _ _ _ _ _ (by omega)]
    · rw [zz_ne _ _ _ _ _ _ (by omega), zz_ne _ _ _ _ _ _ (by omega), zz_ne _ _ _ _ _ _ (by omega)]
    · rw [zz_ne _ _ _ _ _ _ (by omega), zz_same _ _ _ (by decide), eK]; rfl
    · rw [zz_same _ _ _ ⟨by omega, by omega⟩, eE]; omega
    · rw [zz_ne _ _ _ _ _ _ (by decide), zz_ne _ _ _ _ _ _ (by omega), zz_ne _ _ _ _ _ _ (by omega)]; exact h22
    · rw [zz_ne _ _ _ _ _ _ (by decide), zz_ne _ _ _ _ _ _ (by omega), zz_ne _ _ _ _ _ _ (by omega)]
    · rw [zz_ne _ _ _ _ _ _ (by omega), zz_ne _ _ _ _ _ _ (by omega), zz_same _ _ _ ⟨by omega, by omega⟩]; omega
  · have e26 : zz (zu (zu s 56 22 8) 56 23 (zz s 56 25)) 56 26 = m := by
      rw [zz_ne _ _ _ _ _ _ (by decide), zz_ne _ _ _ _ _ _ (by decide)]; exact h26
    have e25 : zz (zu (zu s 56 22 8) 56 23 (zz s 56 25)) 56 25 = p := by
      rw [zz_ne _ _ _ _ _ _ (by decide), zz_ne _ _ _ _ _ _ (by decide)]; exact h25
    refine w161_65 hB (by omega) _ _ _ l ⟨⟨by omega, by omega⟩, _, rfl, ?_⟩
    have hF8 : tkF t n p = 8 := by rw [eF, if_pos (by omega)]
    rw [e26, natc, e25, h25]
    refine ⟨fun k q1 q2 q3 => ?_, fun j hj => ?_, fun j hj => ⟨?_, ?_⟩, fun h => absurd h (by rw [hF8]; decide), fun _ => ⟨?_, ?_⟩⟩
    · rw [zu_ne _ _ _ _ _ q1, zu_ne _ _ _ _ _ q2, zu_ne _ _ _ _ _ q3, zu_ne _ _ _ _ _ q1, zu_ne _ _ _ _ _ q1]
    · rw [zz_ne _ _ _ _ _ _ (fun q => hj (by rw [q.2]; decide)), zz_ne _ _ _ _ _ _ (by omega), zz_ne _ _ _ _ _ _ (by omega), zz_ne _ _ _ _ _ _ (fun q => hj (by rw [q.2]; decide)), zz_ne _ _ _ _ _ _ (fun q => hj (by rw [q.2]; decide))]
    · rw [zz_ne _ _ _ _ _ _ (by omega), zz_ne _ _ _ _ _ _ (by omega), zz_ne _ _ _ _ _ _ (by omega), zz_ne _ _ _ _ _ _ (by omega), zz_ne _ _ _ _ _ _ (by omega)]
    · rw [zz_ne _ _ _ _ _ _ (by omega), zz_ne _ _ _ _ _ _ (by omega), zz_ne _ _ _ _ _ _ (by omega), zz_ne _ _ _ _ _ _ (by omega), zz_ne _ _ _ _ _ _ (by omega)]
    · rw [zz_ne _ _ _ _ _ _ (by decide), zz_ne _ _ _ _ _ _ (by omega), zz_ne _ _ _ _ _ _ (by omega), zz_ne _ _ _ _ _ _ (by decide), zz_same _ _ _ (by decide), hF8]
    · rw [zz_ne _ _ _ _ _ _ (by decide), zz_ne _ _ _ _ _ _ (by omega), zz_ne _ _ _ _ _ _ (by omega), zz_same _ _ _ ⟨by omega, by omega⟩]
theorem nx2 {t : Nat → Int} {n p a b : Nat} : nx t n p [a, b] = true ↔ bm t n p = (a : Int) ∧ bm t n (p + 1) = (b : Int) := by
  simp [nx]
theorem nx3 {t : Nat → Int} {n p a b c : Nat} : nx t n p [a, b, c] = true ↔ bm t n p = (a : Int) ∧ bm t n (p + 1) = (b : Int) ∧ bm t n (p + 2) = (c : Int) := by
  simp [nx]
theorem bt_bm {t : Nat → Int} {n : Nat} (h : ∀ j, j < n → 0 ≤ t j ∧ t j < 256) (p : Nat) : (bt t n p = bm t n p ∧ 0 ≤ bm t n p ∧ bm t n p < 256) ∨ (bt t n p = 0 ∧ bm t n p = -1) := by
  unfold bt bm
  by_cases hp : p < n
  · rw [if_pos hp, if_pos hp]
    exact Or.inl ⟨rfl, h p hp⟩
  · rw [if_neg hp, if_neg hp]
    exact Or.inr ⟨rfl, rfl⟩
/-- the signs, in one row -/
def sgK (c d e : Int) : Int := if z43 c d e ≠ -1 then z43 c d e else if z44 c d ≠ -1 then z44 c d else z45 c
def sgW (c d e : Int) : Nat := if z43 c d e ≠ -1 then 3 else if z44 c d ≠ -1 then 2 else 1
theorem z43_none {c d e : Int} (h0 : ¬ (c = 60 ∧ d = 61 ∧ e = 62)) (h1 : ¬ (c = 61 ∧ d = 61 ∧ e = 62)) : z43 c d e = -1 := by
  unfold z43
  rw [if_neg (fun q => h1 ⟨q.2.2, q.1, q.2.1⟩), if_neg (fun q => h0 ⟨q.2.2, q.1, q.2.1⟩)]
theorem z44_none {c d : Int} (h0 : ¬ (c = 60 ∧ d = 61)) (h1 : ¬ (c = 60 ∧ d = 45)) (h2 : ¬ (c = 45 ∧ d = 62)) (h3 : ¬ (c = 47 ∧ d = 92)) (h4 : ¬ (c = 92 ∧ d = 47)) (h5 : ¬ (c = 58 ∧ d = 61)) : z44 c d = -1 := by
  unfold z44
  rw [if_neg h0, if_neg h1, if_neg h2, if_neg h3, if_neg h4, if_neg h5]
theorem z45_none {c : Int} (h40 : c ≠ 40) (h41 : c ≠ 41) (h58 : c ≠ 58) (h46 : c ≠ 46) (h92 : c ≠ 92) (h33 : c ≠ 33) (h63 : c ≠ 63) (h64 : c ≠ 64) (h126 : c ≠ 126) (h61 : c ≠ 61) (h60 : c ≠ 60) (h43 : c ≠ 43) (h42 : c ≠ 42) (h91 : c ≠ 91) (h93 : c ≠ 93) (h44 : c ≠ 44) (h59 : c ≠ 59) (h124 : c ≠ 124) : z45 c = -1 := by
  unfold z45
  rw [if_neg h40, if_neg h41, if_neg h58, if_neg h46, if_neg h92, if_neg h33, if_neg h63, if_neg h64, if_neg h126, if_neg h61, if_neg h60, if_neg h43, if_neg h42, if_neg (by rintro (q | q | q | q | q); exact h91 q; exact h93 q; exact h44 q; exact h59 q; exact h124 q)]
theorem sg1 {c d e k : Int} (h3 : z43 c d e = -1) (h4 : z44 c d = -1) (h5 : z45 c = k) : sgK c d e = k ∧ sgW c d e = 1 := by
  unfold sgK sgW
  rw [if_neg (fun h => h h3), if_neg (fun h => h h4), if_neg (fun h => h h3), if_neg (fun h => h h4)]
  exact ⟨h5, rfl⟩
theorem sg2 {c d e k : Int} (h3 : z43 c d e = -1) (h4 : z44 c d = k) (hk : k ≠ -1) : sgK c d e = k ∧ sgW c d e = 2 := by
  unfold sgK sgW
  rw [if_neg (fun h => h h3), if_pos (by rw [h4]; exact hk), if_neg (fun h => h h3), if_pos (by rw [h4]; exact hk)]
  exact ⟨h4, rfl⟩
theorem sg3 {c d e k : Int} (h3 : z43 c d e = k) (hk : k ≠ -1) : sgK c d e = k ∧ sgW c d e = 3 := by
  unfold sgK sgW
  rw [if_pos (by rw [h3]; exact hk), if_pos (by rw [h3]; exact hk)]
  exact ⟨h3, rfl⟩
theorem m_scanSign {d : Nat} {B : aH} (hB : a_Can B) (hd : 2 ≤ d) {t : Nat → Int} {n : Nat} {s : aZ} (l : aZL) (hT : MT t n s) (p m : Nat) (hp : p < n) (h25 : zz s 56 25 = p) (h26 : zz s 56 26 = m) (hm : m < 6002) (h22 : zz s 56 22 = 0) (hz1 : ¬ z31 (t p) ≠ 0) (hz : ¬ z34 (t p) ≠ 0) (h39 : t p = 39 → ¬ z31 (bt t n (p + 1)) ≠ 0) : a_W d 162 0 [.ref 56, iv (t p)] [] (mkH B s l) (fun q => ∃ s2, q = (.inl none, mkH B s2 l) ∧ MSP t n p m s s2) := by
  have h8 := hT.2.1
  have hr := fun j hj => (hT.2.2 j hj).2
  have hc := hr p hp
  have b0 : bm t n p = t p := by unfold bm; rw [if_pos hp]
  have b1 := bt_bm hr (p + 1)
  have b2 := bt_bm hr (p + 2)
  have e1 : ∀ c : Nat, 0 < c → (bm t n (p + 1) = (c : Int) ↔ bt t n (p + 1) = (c : Int)) := fun c h => by omega
  have e2 : ∀ c : Nat, 0 < c → (bm t n (p + 2) = (c : Int) ↔ bt t n (p + 2) = (c : Int)) := fun c h => by omega
  clear b1 b2
  have ok : ∀ (c W : Int), inR c → (0 ≤ W ∧ W ≤ 8000) → t p ≠ 39 → kM (sgK (t p) (bt t n (p + 1)) (bt t n (p + 2))) = c → sgK (t p) (bt t n (p + 1)) (bt t n (p + 2)) ≠ -1 → ((sgW (t p) (bt t n (p + 1)) (bt t n (p + 2)) : Nat) : Int) = W → ((0 ≤ (zz s 56 26) ∧ (zz s 56 26) < 6002) ∧ ∃ s2, ((.inl none, (mkH B (zu (zu s 71 (zz s 56 26).toNat c) 56 25 ((zz s 56 25) + W)) l)) : aR) = (.inl none, mkH B s2 l) ∧ MSP t n p m s s2) := by
    intro c W hcr hW k39 hK hne hE
    have eK : tkK t n p = sgK (t p) (bt t n (p + 1)) (bt t n (p + 2)) := by unfold tkK sgK; rw [if_neg hz1, if_neg k39, if_neg hz]
    have eE : tkE t n p = p + sgW (t p) (bt t n (p + 1)) (bt t n (p + 2)) := by
      unfold tkE sgW
      rw [if_neg hz1, if_neg k39, if_neg hz]
      split
      · rfl
      · split <;> rfl
    have eF : tkF t n p = 0 := by unfold tkF; rw [if_neg hz1, if_neg k39, if_neg hz, if_neg (by rw [eK]; exact hne)]
    refine ⟨⟨by omega, by omega⟩, _, rfl, MSP.ok c W hcr h26 h25 h22 (by omega) hW ?_ eF (by rw [eK]; exact hK) (by rw [eE]; omega)⟩
    exact (tkS_ne hz1 k39 hz).2
  have bad : (t p = 39 ∨ sgK (t p) (bt t n (p + 1)) (bt t n (p + 2)) = -1) → ∃ s2, ((.inl none, (mkH B (zu (zu s 56 22 1) 56 23 (zz s 56 25)) l)) : aR) = (.inl none, mkH B s2 l) ∧ MSP t n p m s s2 := by
    intro h
    refine ⟨_, rfl, MSP.bad 1 h25 (by omega) ?_ (by decide) (by decide)⟩
    unfold tkF
    rw [if_neg hz1]
    by_cases k39 : t p = 39
    · rw [if_pos k39, if_neg (h39 k39)]
    · rw [if_neg k39, if_neg hz]
      have eK : tkK t n p = sgK (t p) (bt t n (p + 1)) (bt t n (p + 2)) := by unfold tkK sgK; rw [if_neg hz1, if_neg k39, if_neg hz]
      rw [eK, if_pos]
      rcases h with h | h
      · exact absurd h k39
      · exact h
  refine w162_0 hB (by omega) _ s l ?_
  rw [h25]
  refine a_W.imp (m_next hB (by omega) l hT str1048589 p (by omega)) ?_
  rintro _ rfl
  refine ⟨_, s, l, rfl, ?_⟩
  by_cases g0 : nx t n p [60, 61, 62] = true
  · rw [if_pos g0]
    rw [nx3, b0, e1 61 (by decide), e2 62 (by decide)] at g0
    exact ⟨by decide, fun h => absurd h (by decide), fun _ => (by have hs := (sg3 (c := t p) (d := bt t n (p + 1)) (e := bt t n (p + 2)) (k := 14) (by rw [g0.1, g0.2.1, g0.2.2]; decide) (by decide)); exact ok 20 3 (by decide) (by decide) (by rw [g0.1]; decide) (by rw [hs.1]; rfl) (by rw [hs.1]; decide) (by rw [hs.2]; rfl))⟩
  rw [if_neg g0]
  refine ⟨by decide, fun _ => ?_, fun h => absurd rfl h⟩
  rw [nx3, b0, e1 61 (by decide), e2 62 (by decide)] at g0
  rw [h25]
  refine a_W.imp (m_next hB (by omega) l hT str1048590 p (by omega)) ?_
  rintro _ rfl
  refine ⟨_, s, l, rfl, ?_⟩
  by_cases g1 : nx t n p [61, 61, 62] = true
  · rw [if_pos g1]
    rw [nx3, b0, e1 61 (by decide), e2 62 (by decide)] at g1
    exact ⟨by decide, fun h => absurd h (by decide), fun _ => (by have hs := (sg3 (c := t p) (d := bt t n (p + 1)) (e := bt t n (p + 2)) (k := 15) (by rw [g1.1, g1.2.1, g1.2.2]; decide) (by decide)); exact ok 21 3 (by decide) (by decide) (by rw [g1.1]; decide) (by rw [hs.1]; rfl) (by rw [hs.1]; decide) (by rw [hs.2]; rfl))⟩
  rw [if_neg g1]
  refine ⟨by decide, fun _ => ?_, fun h => absurd rfl h⟩
  rw [nx3, b0, e1 61 (by decide), e2 62 (by decide)] at g1
  rw [h25]
  refine a_W.imp (m_next hB (by omega) l hT str1048591 p (by omega)) ?_
  rintro _ rfl
  refine ⟨_, s, l, rfl, ?_⟩
  by_cases g2 : nx t n p [92, 47] = true
  · rw [if_pos g2]
    rw [nx2, b0, e1 47 (by decide)] at g2
    exact ⟨by decide, fun h => absurd h (by decide), fun _ => (by have hs := (sg2 (c := t p) (d := bt t n (p + 1)) (e := bt t n (p + 2)) (k := 16) (by rw [g2.1, g2.2]; exact z43_none (by rintro ⟨q, -⟩; exact absurd q (by decide)) (by rintro ⟨q, -⟩; exact absurd q (by decide))) (by rw [g2.1, g2.2]; decide) (by decide)); exact ok 22 2 (by decide) (by decide) (by rw [g2.1]; decide) (by rw [hs.1]; rfl) (by rw [hs.1]; decide) (by rw [hs.2]; rfl))⟩
  rw [if_neg g2]
  refine ⟨by decide, fun _ => ?_, fun h => absurd rfl h⟩
  rw [nx2, b0, e1 47 (by decide)] at g2
  rw [h25]
  refine a_W.imp (m_next hB (by omega) l hT str1048592 p (by omega)) ?_
  rintro _ rfl
  refine ⟨_, s, l, rfl, ?_⟩
  by_cases g3 : nx t n p [47, 92] = true
  · rw [if_pos g3]
    rw [nx2, b0, e1 92 (by decide)] at g3
    exact ⟨by decide, fun h => absurd h (by decide), fun _ => (by have hs := (sg2 (c := t p) (d := bt t n (p + 1)) (e := bt t n (p + 2)) (k := 17) (by rw [g3.1, g3.2]; exact z43_none (by rintro ⟨q, -⟩; exact absurd q (by decide)) (by rintro ⟨q, -⟩; exact absurd q (by decide))) (by rw [g3.1, g3.2]; decide) (by decide)); exact ok 23 2 (by decide) (by decide) (by rw [g3.1]; decide) (by rw [hs.1]; rfl) (by rw [hs.1]; decide) (by rw [hs.2]; rfl))⟩
  rw [if_neg g3]
  refine ⟨by decide, fun _ => ?_, fun h => absurd rfl h⟩
  rw [nx2, b0, e1 92 (by decide)] at g3
  rw [h25]
  refine a_W.imp (m_next hB (by omega) l hT str1048593 p (by omega)) ?_
  rintro _ rfl
  refine ⟨_, s, l, rfl, ?_⟩
  by_cases g4 : nx t n p [60, 61] = true
  · rw [if_pos g4]
    rw [nx2, b0, e1 61 (by decide)] at g4
    exact ⟨by decide, fun h => absurd h (by decide), fun _ => (by have hs := (sg2 (c := t p) (d := bt t n (p + 1)) (e := bt t n (p + 2)) (k := 20) (z43_none g0 (by rintro ⟨q, -⟩; rw [g4.1] at q; exact absurd q (by decide))) (by rw [g4.1, g4.2]; decide) (by decide)); exact ok 26 2 (by decide) (by decide) (by rw [g4.1]; decide) (by rw [hs.1]; rfl) (by rw [hs.1]; decide) (by rw [hs.2]; rfl))⟩
  rw [if_neg g4]
  refine ⟨by decide, fun _ => ?_, fun h => absurd rfl h⟩
  rw [nx2, b0, e1 61 (by decide)] at g4
  rw [h25]
  refine a_W.imp (m_next hB (by omega) l hT str1048594 p (by omega)) ?_
  rintro _ rfl
  refine ⟨_, s, l, rfl, ?_⟩
  by_cases g5 : nx t n p [60, 45] = true
  · rw [if_pos g5]
    rw [nx2, b0, e1 45 (by decide)] at g5
    exact ⟨by decide, fun _ => (by have hs := (sg2 (c := t p) (d := bt t n (p + 1)) (e := bt t n (p + 2)) (k := 23) (z43_none g0 (by rintro ⟨q, -⟩; rw [g5.1] at q; exact absurd q (by decide))) (by rw [g5.1, g5.2]; decide) (by decide)); exact ok 14 2 (by decide) (by decide) (by rw [g5.1]; decide) (by rw [hs.1]; rfl) (by rw [hs.1]; decide) (by rw [hs.2]; rfl)), fun h => absurd h (by decide)⟩
  rw [if_neg g5]
  refine ⟨by decide, fun h => absurd rfl h, fun _ => ?_⟩
  rw [nx2, b0, e1 45 (by decide)] at g5
  rw [h25]
  refine a_W.imp (m_next hB (by omega) l hT str1048595 p (by omega)) ?_
  rintro _ rfl
  refine ⟨_, s, l, rfl, ?_⟩
  by_cases g6 : nx t n p [58, 61] = true
  · rw [if_pos g6]
    rw [nx2, b0, e1 61 (by decide)] at g6
    exact ⟨by decide, fun h => absurd h (by decide), fun _ => (by have hs := (sg2 (c := t p) (d := bt t n (p + 1)) (e := bt t n (p + 2)) (k := 23) (by rw [g6.1, g6.2]; exact z43_none (by rintro ⟨q, -⟩; exact absurd q (by decide)) (by rintro ⟨q, -⟩; exact absurd q (by decide))) (by rw [g6.1, g6.2]; decide) (by decide)); exact ok 14 2 (by decide) (by decide) (by rw [g6.1]; decide) (by rw [hs.1]; rfl) (by rw [hs.1]; decide) (by rw [hs.2]; rfl))⟩
  rw [if_neg g6]
  refine ⟨by decide, fun _ => ?_, fun h => absurd rfl h⟩
  rw [nx2, b0, e1 61 (by decide)] at g6
  rw [h25]
  refine a_W.imp (m_next hB (by omega) l hT str1048596 p (by omega)) ?_
  rintro _ rfl
  refine ⟨_, s, l, rfl, ?_⟩
  by_cases g7 : nx t n p [45, 62] = true
  · rw [if_pos g7]
    rw [nx2, b0, e1 62 (by decide)] at g7
    exact ⟨by decide, fun h => absurd h (by decide), fun _ => (by have hs := (sg2 (c := t p) (d := bt t n (p + 1)) (e := bt t n (p + 2)) (k := 8) (by rw [g7.1, g7.2]; exact z43_none (by rintro ⟨q, -⟩; exact absurd q (by decide)) (by rintro ⟨q, -⟩; exact absurd q (by decide))) (by rw [g7.1, g7.2]; decide) (by decide)); exact ok 13 2 (by decide) (by decide) (by rw [g7.1]; decide) (by rw [hs.1]; rfl) (by rw [hs.1]; decide) (by rw [hs.2]; rfl))⟩
  rw [if_neg g7]
  refine ⟨by decide, fun _ => ?_, fun h => absurd rfl h⟩
  rw [nx2, b0, e1 62 (by decide)] at g7
  refine ⟨⟨by omega, by omega⟩, ?_⟩
  refine ⟨fun e61 => ?_, fun e61 => (by have hs := sg1 (c := t p) (d := bt t n (p + 1)) (e := bt t n (p + 2)) (k := 18) (z43_none g0 g1) (z44_none g4 g5 g7 g3 g2 g6) (by rw [e61]; rfl); exact ok 24 1 (by decide) (by decide) (by rw [e61]; decide) (by rw [hs.1]; rfl) (by rw [hs.1]; decide) (by rw [hs.2]; rfl))⟩
  refine ⟨fun e60 => ?_, fun e60 => (by have hs := sg1 (c := t p) (d := bt t n (p + 1)) (e := bt t n (p + 2)) (k := 19) (z43_none g0 g1) (z44_none g4 g5 g7 g3 g2 g6) (by rw [e60]; rfl); exact ok 25 1 (by decide) (by decide) (by rw [e60]; decide) (by rw [hs.1]; rfl) (by rw [hs.1]; decide) (by rw [hs.2]; rfl))⟩
  refine ⟨fun e43 => ?_, fun e43 => (by have hs := sg1 (c := t p) (d := bt t n (p + 1)) (e := bt t n (p + 2)) (k := 21) (z43_none g0 g1) (z44_none g4 g5 g7 g3 g2 g6) (by rw [e43]; rfl); exact ok 27 1 (by decide) (by decide) (by rw [e43]; decide) (by rw [hs.1]; rfl) (by rw [hs.1]; decide) (by rw [hs.2]; rfl))⟩
  refine ⟨fun e42 => ?_, fun e42 => (by have hs := sg1 (c := t p) (d := bt t n (p + 1)) (e := bt t n (p + 2)) (k := 22) (z43_none g0 g1) (z44_none g4 g5 g7 g3 g2 g6) (by rw [e42]; rfl); exact ok 28 1 (by decide) (by decide) (by rw [e42]; decide) (by rw [hs.1]; rfl) (by rw [hs.1]; decide) (by rw [hs.2]; rfl))⟩
  refine ⟨fun e40 => ?_, fun e40 => (by have hs := sg1 (c := t p) (d := bt t n (p + 1)) (e := bt t n (p + 2)) (k := 4) (z43_none g0 g1) (z44_none g4 g5 g7 g3 g2 g6) (by rw [e40]; rfl); exact ok 4 1 (by decide) (by decide) (by rw [e40]; decide) (by rw [hs.1]; rfl) (by rw [hs.1]; decide) (by rw [hs.2]; rfl))⟩
  refine ⟨fun e41 => ?_, fun e41 => (by have hs := sg1 (c := t p) (d := bt t n (p + 1)) (e := bt t n (p + 2)) (k := 5) (z43_none g0 g1) (z44_none g4 g5 g7 g3 g2 g6) (by rw [e41]; rfl); exact ok 5 1 (by decide) (by decide) (by rw [e41]; decide) (by rw [hs.1]; rfl) (by rw [hs.1]; decide) (by rw [hs.2]; rfl))⟩
  refine ⟨fun e46 => ?_, fun e46 => (by have hs := sg1 (c := t p) (d := bt t n (p + 1)) (e := bt t n (p + 2)) (k := 7) (z43_none g0 g1) (z44_none g4 g5 g7 g3 g2 g6) (by rw [e46]; rfl); exact ok 6 1 (by decide) (by decide) (by rw [e46]; decide) (by rw [hs.1]; rfl) (by rw [hs.1]; decide) (by rw [hs.2]; rfl))⟩
  refine ⟨fun e58 => ?_, fun e58 => (by have hs := sg1 (c := t p) (d := bt t n (p + 1)) (e := bt t n (p + 2)) (k := 6) (z43_none g0 g1) (z44_none g4 g5 g7 g3 g2 g6) (by rw [e58]; rfl); exact ok 7 1 (by decide) (by decide) (by rw [e58]; decide) (by rw [hs.1]; rfl) (by rw [hs.1]; decide) (by rw [hs.2]; rfl))⟩
  refine ⟨fun e92 => ?_, fun e92 => (by have hs := sg1 (c := t p) (d := bt t n (p + 1)) (e := bt t n (p + 2)) (k := 9) (z43_none g0 g1) (z44_none g4 g5 g7 g3 g2 g6) (by rw [e92]; rfl); exact ok 8 1 (by decide) (by decide) (by rw [e92]; decide) (by rw [hs.1]; rfl) (by rw [hs.1]; decide) (by rw [hs.2]; rfl))⟩
  refine ⟨fun e33 => ?_, fun e33 => (by have hs := sg1 (c := t p) (d := bt t n (p + 1)) (e := bt t n (p + 2)) (k := 10) (z43_none g0 g1) (z44_none g4 g5 g7 g3 g2 g6) (by rw [e33]; rfl); exact ok 9 1 (by decide) (by decide) (by rw [e33]; decide) (by rw [hs.1]; rfl) (by rw [hs.1]; decide) (by rw [hs.2]; rfl))⟩
  refine ⟨fun e63 => ?_, fun e63 => (by have hs := sg1 (c := t p) (d := bt t n (p + 1)) (e := bt t n (p + 2)) (k := 11) (z43_none g0 g1) (z44_none g4 g5 g7 g3 g2 g6) (by rw [e63]; rfl); exact ok 10 1 (by decide) (by decide) (by rw [e63]; decide) (by rw [hs.1]; rfl) (by rw [hs.1]; decide) (by rw [hs.2]; rfl))⟩
  refine ⟨fun e64 => ?_, fun e64 => (by have hs := sg1 (c := t p) (d := bt t n (p + 1)) (e := bt t n (p + 2)) (k := 12) (z43_none g0 g1) (z44_none g4 g5 g7 g3 g2 g6) (by rw [e64]; rfl); exact ok 11 1 (by decide) (by decide) (by rw [e64]; decide) (by rw [hs.1]; rfl) (by rw [hs.1]; decide) (by rw [hs.2]; rfl))⟩
  refine ⟨fun e126 => ?_, fun e126 => (by have hs := sg1 (c := t p) (d := bt t n (p + 1)) (e := bt t n (p + 2)) (k := 13) (z43_none g0 g1) (z44_none g4 g5 g7 g3 g2 g6) (by rw [e126]; rfl); exact ok 12 1 (by decide) (by decide) (by rw [e126]; decide) (by rw [hs.1]; rfl) (by rw [hs.1]; decide) (by rw [hs.2]; rfl))⟩
  refine ⟨fun e91 => (by have hs := sg1 (c := t p) (d := bt t n (p + 1)) (e := bt t n (p + 2)) (k := 23) (z43_none g0 g1) (z44_none g4 g5 g7 g3 g2 g6) (by rw [e91]; rfl); exact ok 14 1 (by decide) (by decide) (by rw [e91]; decide) (by rw [hs.1]; rfl) (by rw [hs.1]; decide) (by rw [hs.2]; rfl)), fun e91 => ?_⟩
  refine ⟨fun e93 => (by have hs := sg1 (c := t p) (d := bt t n (p + 1)) (e := bt t n (p + 2)) (k := 23) (z43_none g0 g1) (z44_none g4 g5 g7 g3 g2 g6) (by rw [e93]; rfl); exact ok 14 1 (by decide) (by decide) (by rw [e93]; decide) (by rw [hs.1]; rfl) (by rw [hs.1]; decide) (by rw [hs.2]; rfl)), fun e93 => ?_⟩
  refine ⟨fun e44 => (by have hs := sg1 (c := t p) (d := bt t n (p + 1)) (e := bt t n (p + 2)) (k := 23) (z43_none g0 g1) (z44_none g4 g5 g7 g3 g2 g6) (by rw [e44]; rfl); exact ok 14 1 (by decide) (by decide) (by rw [e44]; decide) (by rw [hs.1]; rfl) (by rw [hs.1]; decide) (by rw [hs.2]; rfl)), fun e44 => ?_⟩
  refine ⟨fun e59 => (by have hs := sg1 (c := t p) (d := bt t n (p + 1)) (e := bt t n (p + 2)) (k := 23) (z43_none g0 g1) (z44_none g4 g5 g7 g3 g2 g6) (by rw [e59]; rfl); exact ok 14 1 (by decide) (by decide) (by rw [e59]; decide) (by rw [hs.1]; rfl) (by rw [hs.1]; decide) (by rw [hs.2]; rfl)), fun e59 => ?_⟩
  exact ⟨fun e124 => ⟨fun _ => bad (Or.inr (sg1 (z43_none g0 g1) (z44_none g4 g5 g7 g3 g2 g6) (z45_none e40 e41 e58 e46 e92 e33 e63 e64 e126 e61 e60 e43 e42 e91 e93 e44 e59 e124)).1), fun h => absurd h (by omega)⟩, fun e124 => (by have hs := sg1 (c := t p) (d := bt t n (p + 1)) (e := bt t n (p + 2)) (k := 23) (z43_none g0 g1) (z44_none g4 g5 g7 g3 g2 g6) (by rw [e124]; rfl); exact ok 14 1 (by decide) (by decide) (by rw [e124]; decide) (by rw [hs.1]; rfl) (by rw [hs.1]; decide) (by rw [hs.2]; rfl))⟩
