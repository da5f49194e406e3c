/-! THE POOL: THE ONE THAT SPEAKS FOR A NODE; A NEW NODE -/
theorem iv_wr (x : Int) : iv x = iv (Int32.ofInt x).toInt := iv_i (Int32.ofInt x)
/-- a node's parent becomes its parent's -/
def hvS (s : aZ) (k : Nat) : aZ := zu s 21 k (zz s 21 (zz s 21 k).toNat)
/-- some steps of that kind, below P -/
def Hv (P : Nat) (s s2 : aZ) : Prop := ∀ F : aZ → Prop, (∀ s k, k < P → zz s 21 k ≠ k → F s → F (hvS s k)) → F s → F s2
theorem Hv.rf (P : Nat) (s : aZ) : Hv P s s := fun _ _ h => h
theorem Hv.tr {P : Nat} {s1 s2 s3 : aZ} (a : Hv P s1 s2) (b : Hv P s2 s3) : Hv P s1 s3 := fun F hF h => b F hF (a F hF h)
theorem Hv.st {P k : Nat} {s : aZ} (h : k < P) (h2 : zz s 21 k ≠ k) : Hv P s (hvS s k) := fun _ hF hs => hF s k h h2 hs
theorem Hv.mono {P P2 : Nat} {s s2 : aZ} (a : Hv P s s2) (h : P ≤ P2) : Hv P2 s s2 := fun F hF hs => a F (fun s k hk h2 hs => hF s k (by omega) h2 hs) hs
theorem Hv.k {P : Nat} {s s2 : aZ} (a : Hv P s s2) : ∀ k, k ≠ 21 → s2 k = s k := a (fun s2 => ∀ k, k ≠ 21 → s2 k = s k) (fun s3 k _ _ h q hq => (zu_ne _ _ _ _ _ hq).trans (h q hq)) (fun _ _ => rfl)
theorem Hv.up {P : Nat} {s s2 : aZ} (a : Hv P s s2) : ∀ j, P ≤ j → zz s2 21 j = zz s 21 j := a (fun s2 => ∀ j, P ≤ j → zz s2 21 j = zz s 21 j) (fun s3 k hk _ h j hj => (zz_ne _ _ _ _ _ _ (by omega)).trans (h j hj)) (fun _ _ => rfl)
/-- parents lie below P -/
def PP (P : Nat) (s : aZ) : Prop := ∀ j, j < P → 0 ≤ zz s 21 j ∧ zz s 21 j < P
theorem PP.hv {P : Nat} {s : aZ} (h : PP P s) {k : Nat} (hk : k < P) : PP P (hvS s k) := by
  intro j hj
  unfold hvS
  by_cases e : j = k
  · subst e
    have h1 := h j hj
    rw [zz_same _ _ _ (inR_zz _ _ _)]
    exact h _ (by omega)
  · rw [zz_ne _ _ _ _ _ _ (by omega)]
    exact h j hj
theorem Hv.pp {P : Nat} {s s2 : aZ} (a : Hv P s s2) (h : PP P s) : PP P s2 := a (PP P) (fun _ _ hk _ hs => hs.hv hk) h
/-- what find comes to -/
def FDr (P m : Nat) (s : aZ) (x : Nat) (s2 : aZ) (r : Nat) : Prop := r < P ∧ Hv P s s2 ∧ (zz s 21 x = x → 0 < m → s2 = s ∧ r = x) ∧ (∀ u : Nat → Nat, (∀ j, j < P → zz s 21 j ≠ j → u (zz s 21 j).toNat < u j) → u x < m → zz s2 21 r = r) ∧ (∀ C : Nat → Prop, (∀ j, j < P → C j → C (zz s 21 j).toNat) → C x → C r)
theorem x_find_loop {d : Nat} {B : aH} (hB : a_Can B) (l : aZL) (P : Nat) (hP : P ≤ 17000) (x1 : Int) : ∀ (m : Nat) (x3 : Int) (x : Nat) (s : aZ), x3 + m = 17000 → 0 ≤ x3 → x < P → PP P s → a_W d 51 4 [.ref 17, iv x1, iv (x : Int), iv x3] [] (mkH B s l) (fun q => ∃ (s2 : aZ) (r : Nat), q = (.inl (some (iv (r : Int))), mkH B s2 l) ∧ FDr P m s x s2 r) := by
  intro m
  induction m with
  | zero =>
    intro x3 x s h3 h0 hx hs
    refine w51_4 hB x1 _ x3 s l ⟨⟨by omega, by omega⟩, fun _ => ⟨s, x, rfl, hx, Hv.rf _ _, fun _ h => absurd h (by omega), fun _ _ h => absurd h (by omega), fun _ _ h => h⟩, fun h => absurd h (by omega)⟩
  | succ m ih =>
    intro x3 x s h3 h0 hx hs
    have hp := hs x hx
    refine w51_4 hB x1 _ x3 s l ⟨⟨by omega, by omega⟩, fun h => absurd h (by omega), fun _ => ⟨⟨by omega, by omega⟩, ⟨by omega, by omega⟩, fun e => ?_, fun e => ⟨?_, ?_⟩⟩⟩
    · rw [natc] at e
      exact ⟨s, x, rfl, hx, Hv.rf _ _, fun _ _ => ⟨rfl, rfl⟩, fun _ _ _ => e, fun _ _ h => h⟩
    · rw [natc]
      exact ⟨by omega, by omega⟩
    · rw [natc] at e
      rw [natc]
      have hpp := hs (zz s 21 x).toNat (by omega)
      have hs1 := hs.hv hx
      have hv1 : Hv P s (hvS s x) := Hv.st hx e
      have e1 : zz s 21 (zz s 21 x).toNat = (((zz s 21 (zz s 21 x).toNat).toNat : Nat) : Int) := by omega
      have es : zu s 21 x (zz s 21 (zz s 21 x).toNat) = hvS s x := rfl
      rw [es, e1]
      have pa : ∀ j, zz (hvS s x) 21 j = if j = x then zz s 21 (zz s 21 x).toNat else zz s 21 j := by
        intro j
        unfold hvS
        by_cases ej : j = x
        · subst ej; rw [if_pos rfl, zz_same _ _ _ (inR_zz _ _ _)]
        · rw [if_neg ej, zz_ne _ _ _ _ _ _ (by omega)]
      refine a_W.imp (ih (x3 + 1) (zz s 21 (zz s 21 x).toNat).toNat (hvS s x) (by omega) (by omega) (by omega) hs1) ?_
      rintro _ ⟨s2, r, rfl, k1, k2, k3, k4, k5⟩
      refine ⟨s2, r, rfl, k1, hv1.tr k2, fun h => absurd h e, fun u hu hm => ?_, fun C hC hx2 => ?_⟩
      · have u1 := hu x hx e
        have u2 : u (zz s 21 (zz s 21 x).toNat).toNat < u x := by
          by_cases e2 : zz s 21 (zz s 21 x).toNat = ((zz s 21 x).toNat : Nat)
          · rw [e2, natc]; exact u1
          · have := hu (zz s 21 x).toNat (by omega) e2
            omega
        refine k4 u (fun j hj hne => ?_) (by omega)
        rw [pa j] at hne ⊢
        by_cases ej : j = x
        · subst ej
          rw [if_pos rfl]
          exact u2
        · rw [if_neg ej] at hne ⊢
          exact hu j hj hne
      · refine k5 C (fun j hj hc => ?_) (hC _ (by omega) (hC x hx hx2))
        rw [pa j]
        by_cases ej : j = x
        · subst ej
          rw [if_pos rfl]
          exact hC _ (by omega) (hC j hj hc)
        · rw [if_neg ej]
          exact hC j hj hc
theorem x_find {d : Nat} {B : aH} (hB : a_Can B) (l : aZL) (P : Nat) (hP : P ≤ 17000) (x : Nat) (s : aZ) (hx : x < P) (hs : PP P s) : a_W d 51 0 [.ref 17, iv (x : Int), .retAddr 0, .retAddr 0] [] (mkH B s l) (fun q => ∃ (s2 : aZ) (r : Nat), q = (.inl (some (iv (r : Int))), mkH B s2 l) ∧ FDr P 17000 s x s2 r) := w51_0 hB _ s l (x_find_loop hB l P hP x 17000 0 x s (by decide) (by decide) hx hs)
theorem x_sizeOf {d : Nat} {B : aH} (hB : a_Can B) (hd : 1 ≤ d) (l : aZL) (P : Nat) (hP : P ≤ 17000) (x : Nat) (s : aZ) (hx : x < P) (hs : PP P s) : a_W d 50 0 [.ref 17, iv (x : Int)] [] (mkH B s l) (fun q => ∃ (s2 : aZ) (r : Nat), q = (.inl (some (iv (zz s 22 r))), mkH B s2 l) ∧ FDr P 17000 s x s2 r) := by
  refine w50_0 hB (by omega) _ s l (a_W.imp (x_find hB l P hP x s hx hs) ?_)
  rintro _ ⟨s2, r, rfl, k⟩
  refine ⟨_, s2, l, rfl, ⟨by omega, by have := k.1; omega⟩, s2, r, ?_, k⟩
  rw [natc, zz_of (k.2.1.k 22 (by decide))]
theorem x_heightOf {d : Nat} {B : aH} (hB : a_Can B) (hd : 1 ≤ d) (l : aZL) (P : Nat) (hP : P ≤ 17000) (x : Nat) (s : aZ) (hx : x < P) (hs : PP P s) : a_W d 52 0 [.ref 17, iv (x : Int)] [] (mkH B s l) (fun q => ∃ (s2 : aZ) (r : Nat), q = (.inl (some (iv (zz s 23 r))), mkH B s2 l) ∧ FDr P 17000 s x s2 r) := by
  refine w52_0 hB (by omega) _ s l (a_W.imp (x_find hB l P hP x s hx hs) ?_)
  rintro _ ⟨s2, r, rfl, k⟩
  refine ⟨_, s2, l, rfl, ⟨by omega, by have := k.1; omega⟩, s2, r, ?_, k⟩
  rw [natc, zz_of (k.2.1.k 23 (by decide))]
/-- a part that is none, or speaks for itself -/
def rtP (s : aZ) (x : Int) : Prop := x < 0 ∨ zz s 21 x.toNat = x
/-- its size or height -/
def szP (s : aZ) (c : Nat) (x : Int) : Int := if x < 0 then 0 else zz s c x.toNat
theorem x_measure {d : Nat} {B : aH} (hB : a_Can B) (hd : 3 ≤ d) (l : aZL) (P : Nat) (hP : P ≤ 17000) (k : Nat) (hk : k < 17000) (s : aZ) (hs : PP P s) (h1 : -1 ≤ zz s 19 k ∧ zz s 19 k < P) (h2 : -1 ≤ zz s 20 k ∧ zz s 20 k < P) : a_W d 49 0 [.ref 17, iv (k : Int), .retAddr 0, .retAddr 0] [] (mkH B s l) (fun q => ∃ (s1 : aZ) (a b : Int), q = (.inl none, mkH B (zu (zu s1 22 k a) 23 k b) l) ∧ Hv P s s1 ∧ inR a ∧ inR b ∧ (rtP s (zz s 19 k) → rtP s (zz s 20 k) → s1 = s ∧ (inR (1 + szP s 22 (zz s 19 k) + szP s 22 (zz s 20 k)) → a = min (1 + szP s 22 (zz s 19 k) + szP s 22 (zz s 20 k)) 1000000) ∧ (inR (max (szP s 23 (zz s 19 k)) (szP s 23 (zz s 20 k)) + 1) → (0 ≤ szP s 23 (zz s 19 k)) → b = max (szP s 23 (zz s 19 k)) (szP s 23 (zz s 20 k)) + 1))) := by
  -- the end
  have fin : ∀ (s1 : aZ) (x2 x3 : Int), Hv P s s1 → (rtP s (zz s 19 k) → rtP s (zz s 20 k) → s1 = s ∧ x2 = 1 + szP s 22 (zz s 19 k) + szP s 22 (zz s 20 k) ∧ (0 ≤ szP s 23 (zz s 19 k) → x3 = max (szP s 23 (zz s 19 k)) (szP s 23 (zz s 20 k)))) → a_W d 49 74 [.ref 17, iv (k : Int), iv x2, iv x3] [] (mkH B s1 l) (fun q => ∃ (s1 : aZ) (a b : Int), q = (.inl none, mkH B (zu (zu s1 22 k a) 23 k b) l) ∧ Hv P s s1 ∧ inR a ∧ inR b ∧ (rtP s (zz s 19 k) → rtP s (zz s 20 k) → s1 = s ∧ (inR (1 + szP s 22 (zz s 19 k) + szP s 22 (zz s 20 k)) → a = min (1 + szP s 22 (zz s 19 k) + szP s 22 (zz s 20 k)) 1000000) ∧ (inR (max (szP s 23 (zz s 19 k)) (szP s 23 (zz s 20 k)) + 1) → (0 ≤ szP s 23 (zz s 19 k)) → b = max (szP s 23 (zz s 19 k)) (szP s 23 (zz s 20 k)) + 1))) := by
    intro s1 x2 x3 hv he
    rw [iv_wr x2]
    have r2 := inR_i32 (Int32.ofInt x2)
    refine w49_74 hB (by omega) _ _ x3 s1 l ⟨r2, ⟨by omega, by omega⟩, ?_⟩
    rw [natc]
    have hb : zu (zu s1 22 k (min (Int32.ofInt x2).toInt 1000000)) 23 k (x3 + 1) = zu (zu s1 22 k (min (Int32.ofInt x2).toInt 1000000)) 23 k (Int32.ofInt (x3 + 1)).toInt := by
      unfold zu
      rw [Int32.ofInt_toInt]
    rw [hb]
    refine ⟨s1, _, _, rfl, hv, inR_min r2 (by decide), inR_i32 _, fun g1 g2 => ?_⟩
    obtain ⟨e1, e2, e3⟩ := he g1 g2
    refine ⟨e1, fun g => ?_, fun g g0 => ?_⟩
    · rw [e2, toI g]
    · rw [e3 g0, toI g]
  -- the second part
  have mid : ∀ (s1 : aZ) (x2 x3 : Int), inR x3 → Hv P s s1 → (rtP s (zz s 19 k) → s1 = s ∧ x2 = 1 + szP s 22 (zz s 19 k) ∧ x3 = szP s 23 (zz s 19 k)) → a_W d 49 37 [.ref 17, iv (k : Int), iv x2, iv x3] [] (mkH B s1 l) (fun q => ∃ (s1 : aZ) (a b : Int), q = (.inl none, mkH B (zu (zu s1 22 k a) 23 k b) l) ∧ Hv P s s1 ∧ inR a ∧ inR b ∧ (rtP s (zz s 19 k) → rtP s (zz s 20 k) → s1 = s ∧ (inR (1 + szP s 22 (zz s 19 k) + szP s 22 (zz s 20 k)) → a = min (1 + szP s 22 (zz s 19 k) + szP s 22 (zz s 20 k)) 1000000) ∧ (inR (max (szP s 23 (zz s 19 k)) (szP s 23 (zz s 20 k)) + 1) → (0 ≤ szP s 23 (zz s 19 k)) → b = max (szP s 23 (zz s 19 k)) (szP s 23 (zz s 20 k)) + 1))) := by
    intro s1 x2 x3 r3 hv he
    have hs1 := hv.pp hs
    have q20 : zz s1 20 k = zz s 20 k := zz_of (hv.k 20 (by decide)) k
    refine w49_37 hB (by omega) _ x2 x3 s1 l ⟨⟨by omega, by omega⟩, fun g => ?_, fun g => ?_⟩
    · rw [natc, q20] at g
      refine fin s1 x2 x3 hv (fun g1 g2 => ?_)
      obtain ⟨e1, e2, e3⟩ := he g1
      have z1 : szP s 22 (zz s 20 k) = 0 := by unfold szP; rw [if_pos g]
      have z2 : szP s 23 (zz s 20 k) = 0 := by unfold szP; rw [if_pos g]
      refine ⟨e1, by omega, fun g0 => ?_⟩
      rw [z2, e3]; omega
    · rw [natc, q20] at g
      rw [natc, q20]
      obtain ⟨x, ex⟩ : ∃ x : Nat, zz s 20 k = x := ⟨(zz s 20 k).toNat, by omega⟩
      rw [ex]
      refine a_W.imp (x_sizeOf hB (by omega) l P hP x s1 (by omega) hs1) ?_
      rintro _ ⟨s3, r, rfl, k1, k2, k3, k4, k5⟩
      refine ⟨_, s3, l, rfl, ?_⟩
      rw [zz_of (k2.k 20 (by decide)), q20, ex]
      refine a_W.imp (x_heightOf hB (by omega) l P hP x s3 (by omega) (k2.pp hs1)) ?_
      rintro _ ⟨s4, r4, rfl, m1, m2, m3, m4, m5⟩
      rw [← ex]
      refine ⟨_, s4, l, rfl, r3, inR_zz _ _ _, fin s4 _ _ (hv.tr (k2.tr m2)) (fun g1 g2 => ?_)⟩
      obtain ⟨e1, e2, e3⟩ := he g1
      have g2' : zz s 21 x = x := by
        rcases g2 with c | c
        · omega
        · rw [ex, natc] at c; exact c
      rw [e1] at k3
      obtain ⟨p1, p2⟩ := k3 g2' (by decide)
      rw [p1] at m3
      obtain ⟨p3, p4⟩ := m3 g2' (by decide)
      have z1 : szP s 22 (zz s 20 k) = zz s 22 x := by unfold szP; rw [if_neg (by omega), ex, natc]
      have z2 : szP s 23 (zz s 20 k) = zz s 23 x := by unfold szP; rw [if_neg (by omega), ex, natc]
      refine ⟨p3, ?_, fun _ => ?_⟩
      · rw [z1, e2, e1, p2]
      · rw [z2, e3, p1, p4]
  -- the first part
  refine w49_0 hB (by omega) _ s l ⟨⟨by omega, by omega⟩, fun g => ?_, fun g => ?_⟩
  · rw [natc] at g
    refine mid s 1 0 (by decide) (Hv.rf _ _) (fun _ => ⟨rfl, ?_, ?_⟩)
    · unfold szP; rw [if_pos g]; rfl
    · unfold szP; rw [if_pos g]
  · rw [natc] at g
    rw [natc]
    obtain ⟨x, ex⟩ : ∃ x : Nat, zz s 19 k = x := ⟨(zz s 19 k).toNat, by omega⟩
    rw [ex]
    refine a_W.imp (x_sizeOf hB (by omega) l P hP x s (by omega) hs) ?_
    rintro _ ⟨s3, r, rfl, k1, k2, k3, k4, k5⟩
    refine ⟨_, s3, l, rfl, ?_⟩
    rw [zz_of (k2.k 19 (by decide)), ex]
    refine a_W.imp (x_heightOf hB (by omega) l P hP x s3 (by omega) (k2.pp hs)) ?_
    rintro _ ⟨s4, r4, rfl, m1, m2, m3, m4, m5⟩
    refine ⟨_, s4, l, rfl, ?_⟩
    rw [← ex]
    refine mid s4 _ _ (inR_zz _ _ _) (k2.tr m2) (fun g2 => ?_)
    have g2' : zz s 21 x = x := by
      rcases g2 with c | c
      · omega
      · rw [ex, natc] at c; exact c
    obtain ⟨p1, p2⟩ := k3 g2' (by decide)
    rw [p1] at m3
    obtain ⟨p3, p4⟩ := m3 g2' (by decide)
    refine ⟨p3, ?_, ?_⟩
    · unfold szP; rw [if_neg (by omega), ex, natc, p2]
    · unfold szP; rw [if_neg (by omega), ex, natc, p1, p4]
/-- the pool has P nodes, all that they name lies below P -/
def PS (P : Nat) (s : aZ) : Prop := 0 < P ∧ zz s 17 8 = P ∧ PP P s ∧ ∀ j, j < P → (-1 ≤ zz s 19 j ∧ zz s 19 j < P) ∧ (-1 ≤ zz s 20 j ∧ zz s 20 j < P) ∧ (zz s 18 j = 2 → 0 ≤ zz s 19 j ∧ 0 ≤ zz s 20 j)
/-- a new node at P, not yet measured -/
def nwP (s : aZ) (P : Nat) (c one other : Int) : aZ := zu (zu (zu (zu s 18 P c) 19 P one) 20 P other) 21 P P
theorem nwP_at (s : aZ) (P : Nat) (c one other : Int) (hP : P < 17000) (hc : inR c) (h1 : inR one) (h2 : inR other) : zz (nwP s P c one other) 18 P = c ∧ zz (nwP s P c one other) 19 P = one ∧ zz (nwP s P c one other) 20 P = other ∧ zz (nwP s P c one other) 21 P = P := by
  unfold nwP
  refine ⟨?_, ?_, ?_, ?_⟩
  · rw [zz_ne _ _ _ _ _ _ (by omega), zz_ne _ _ _ _ _ _ (by omega), zz_ne _ _ _ _ _ _ (by omega), zz_same _ _ _ hc]
  · rw [zz_ne _ _ _ _ _ _ (by omega), zz_ne _ _ _ _ _ _ (by omega), zz_same _ _ _ h1]
  · rw [zz_ne _ _ _ _ _ _ (by omega), zz_same _ _ _ h2]
  · rw [zz_same _ _ _ ⟨by omega, by omega⟩]
theorem nwP_ne (s : aZ) (P : Nat) (c one other : Int) (k j : Nat) (h : j ≠ P ∨ k < 18 ∨ 21 < k) : zz (nwP s P c one other) k j = zz s k j := by
  unfold nwP
  rw [zz_ne _ _ _ _ _ _ (by omega), zz_ne _ _ _ _ _ _ (by omega), zz_ne _ _ _ _ _ _ (by omega), zz_ne _ _ _ _ _ _ (by omega)]
theorem nwP_k (s : aZ) (P : Nat) (c one other : Int) (k : Nat) (h : k < 18 ∨ 21 < k) : nwP s P c one other k = s k := by
  unfold nwP
  rw [zu_ne _ _ _ _ _ (by omega), zu_ne _ _ _ _ _ (by omega), zu_ne _ _ _ _ _ (by omega), zu_ne _ _ _ _ _ (by omega)]
theorem zu_at (s : aZ) (k j : Nat) (v : Int) (b : Nat) : zu s k j v k b = if b = j then Int32.ofInt v else s k b := by
  unfold zu a_up
  rw [if_pos rfl]
theorem zu_zz (s : aZ) (k j : Nat) : zu s k j (zz s k j) = s := by
  funext a b
  by_cases h : a = k
  · subst h
    rw [zu_at]
    by_cases g : b = j
    · subst g
      rw [if_pos rfl]
      exact Int32.ofInt_toInt _
    · rw [if_neg g]
  · rw [zu_ne _ _ _ _ _ h]
theorem zu_comm (s : aZ) (k j k' j' : Nat) (v v' : Int) (h : k ≠ k') : zu (zu s k j v) k' j' v' = zu (zu s k' j' v') k j v := by
  funext a b
  by_cases h1 : a = k'
  · subst h1
    have e1 : zu s k j v a = s a := zu_ne _ _ _ _ _ (Ne.symm h)
    have e2 : zu (zu s a j' v') k j v a = zu s a j' v' a := zu_ne _ _ _ _ _ (Ne.symm h)
    rw [e2, zu_at, zu_at, e1]
  · have e1 : zu (zu s k j v) k' j' v' a = zu s k j v a := zu_ne _ _ _ _ _ h1
    rw [e1]
    by_cases h2 : a = k
    · subst h2
      have e2 : zu s k' j' v' a = s a := zu_ne _ _ _ _ _ h1
      rw [zu_at, zu_at, e2]
    · rw [zu_ne _ _ _ _ _ h2, zu_ne _ _ _ _ _ h2, zu_ne _ _ _ _ _ h1]
/-- what a new node comes to; its size and height may be anything -/
def PN (P : Nat) (c one other : Int) (s s2 : aZ) : Prop := ∃ (s1 : aZ) (a b : Int), s2 = zu (zu (zu s1 22 P a) 23 P b) 17 8 ((P : Int) + 1) ∧ Hv P (nwP s P c one other) s1 ∧ inR a ∧ inR b ∧ (rtP s one → rtP s other → s1 = nwP s P c one other)
/-- what a new node comes to that is measured -/
def PM (P : Nat) (c one other : Int) (s s2 : aZ) : Prop := ∃ (s1 : aZ) (a b : Int), s2 = zu (zu (zu s1 22 P a) 23 P b) 17 8 ((P : Int) + 1) ∧ Hv P (nwP s P c one other) s1 ∧ inR a ∧ inR b ∧ (rtP s one → rtP s other → s1 = nwP s P c one other ∧ (inR (1 + szP s 22 one + szP s 22 other) → a = min (1 + szP s 22 one + szP s 22 other) 1000000) ∧ (inR (max (szP s 23 one) (szP s 23 other) + 1) → (0 ≤ szP s 23 one) → b = max (szP s 23 one) (szP s 23 other) + 1))
theorem PM.pn {P : Nat} {c one other : Int} {s s2 : aZ} (h : PM P c one other s s2) : PN P c one other s s2 := by
  obtain ⟨s1, a, b, h1, h2, h3, h4, h5⟩ := h
  exact ⟨s1, a, b, h1, h2, h3, h4, fun g1 g2 => (h5 g1 g2).1⟩
theorem x_add0 {d : Nat} {B : aH} (hB : a_Can B) (l : aZL) (P : Nat) (hP : P < 17000) (s : aZ) (hS : PS P s) (c one other : Int) : a_W d 48 0 [.ref 17, iv c, iv one, iv other] [] (mkH B s l) (fun q => q = (.inl (some (iv (P : Int))), mkH B (zu (nwP s P c one other) 17 8 ((P : Int) + 1)) l)) := by
  obtain ⟨p0, p1, p2, p3⟩ := hS
  have e8 : (zz s 17 8).toNat = P := by omega
  refine w48_0 hB c one other s l ⟨fun _ => ⟨⟨by omega, by omega⟩, ?_⟩, fun h => absurd h (by omega)⟩
  rw [e8, p1, show (P : Int) + 1 - 1 = (P : Int) by omega]
  rfl
theorem x_add {d : Nat} {B : aH} (hB : a_Can B) (hd : 4 ≤ d) (l : aZL) (P : Nat) (hP : P < 17000) (s : aZ) (hS : PS P s) (c one other : Int) (hc : inR c) (h1 : -1 ≤ one ∧ one < P) (h2 : -1 ≤ other ∧ other < P) : a_W d 48 0 [.ref 17, iv c, iv one, iv other] [] (mkH B s l) (fun q => ∃ s2, q = (.inl (some (iv (P : Int))), mkH B s2 l) ∧ PN P c one other s s2) := by
  refine a_W.imp (x_add0 hB l P hP s hS c one other) ?_
  rintro _ rfl
  refine ⟨_, rfl, nwP s P c one other, zz (nwP s P c one other) 22 P, zz (nwP s P c one other) 23 P, ?_, Hv.rf _ _, inR_zz _ _ _, inR_zz _ _ _, fun _ _ => rfl⟩
  rw [zu_zz, zu_zz]
/-- the reader's pool takes a written node: it is measured at once -/
theorem x_writ {d : Nat} {B : aH} (hB : a_Can B) (hd : 4 ≤ d) (l : aZL) (P : Nat) (hP : P < 17000) (s : aZ) (hS : PS P s) (c one other : Int) (hc : inR c) (h1 : -1 ≤ one ∧ one < P) (h2 : -1 ≤ other ∧ other < P) : a_W d 64 0 [.ref 17, iv c, iv one, iv other, .retAddr 0] [] (mkH B s l) (fun q => ∃ s2, q = (.inl (some (iv (P : Int))), mkH B s2 l) ∧ PM P c one other s s2) := by
  refine w64_0 hB (by omega) c one other s l (a_W.imp (x_add0 hB l P hP s hS c one other) ?_)
  rintro _ rfl
  refine ⟨_, _, l, rfl, ?_⟩
  obtain ⟨p0, p1, p2, p3⟩ := hS
  obtain ⟨n1, n2, n3, n4⟩ := nwP_at s P c one other hP hc ⟨by omega, by omega⟩ ⟨by omega, by omega⟩
  have zk : ∀ k j, k ≠ 17 → zz (zu (nwP s P c one other) 17 8 ((P : Int) + 1)) k j = zz (nwP s P c one other) k j := fun k j hk => zz_ne _ _ _ _ _ _ (fun q => hk q.1)
  have hpp : PP P (zu (nwP s P c one other) 17 8 ((P : Int) + 1)) := fun j hj => by rw [zk 21 j (by decide), nwP_ne _ _ _ _ _ _ _ (by omega)]; exact p2 j hj
  have r1 : ∀ x : Int, -1 ≤ x → x < P → rtP s x → rtP (zu (nwP s P c one other) 17 8 ((P : Int) + 1)) x := fun x g1 g2 h => by
    rcases h with c1 | c1
    · exact Or.inl c1
    · by_cases g : x < 0
      · exact Or.inl g
      · exact Or.inr ((zk 21 _ (by decide)).trans ((nwP_ne _ _ _ _ _ _ _ (by omega)).trans c1))
  have r2 : ∀ (k : Nat) (x : Int), 21 < k → szP (zu (nwP s P c one other) 17 8 ((P : Int) + 1)) k x = szP s k x := fun k x hk => by
    unfold szP
    rw [zk k _ (by omega), nwP_ne _ _ _ _ _ _ _ (by omega)]
  have m2 := (zk 19 P (by decide)).trans n2
  have m3 := (zk 20 P (by decide)).trans n3
  refine a_W.imp (x_measure hB (by omega) l P (by omega) P hP _ hpp (by rw [m2]; exact h1) (by rw [m3]; exact h2)) ?_
  rintro _ ⟨s1, a, b, rfl, hv, ra, rb, he⟩
  rw [m2, m3, r2 22 one (by decide), r2 22 other (by decide), r2 23 one (by decide), r2 23 other (by decide)] at he
  refine ⟨_, l, rfl, _, rfl, ?_⟩
  -- the count is set before the node is measured: it could as well be set behind that
  have hv2 : ∃ s0, s1 = zu s0 17 8 ((P : Int) + 1) ∧ Hv P (nwP s P c one other) s0 := by
    refine hv (fun s1 => ∃ s0, s1 = zu s0 17 8 ((P : Int) + 1) ∧ Hv P (nwP s P c one other) s0) ?_ ⟨_, rfl, Hv.rf _ _⟩
    rintro _ k hk hne ⟨s0, rfl, g⟩
    have z21 : ∀ j, zz (zu s0 17 8 ((P : Int) + 1)) 21 j = zz s0 21 j := fun j => zz_ne _ _ _ _ _ _ (by omega)
    rw [z21] at hne
    refine ⟨hvS s0 k, ?_, g.tr (Hv.st hk hne)⟩
    unfold hvS
    rw [z21, z21]
    exact zu_comm _ _ _ _ _ _ _ (by omega)
  obtain ⟨s0, e0, hv0⟩ := hv2
  refine ⟨s0, a, b, ?_, hv0, ra, rb, fun g1 g2 => ?_⟩
  · rw [e0, zu_comm _ 17 8 22 P _ _ (by omega), zu_comm _ 17 8 23 P _ _ (by omega)]
  · obtain ⟨e1, e2, e3⟩ := he (r1 one h1.1 h1.2 g1) (r1 other h2.1 h2.2 g2)
    refine ⟨?_, e2, e3⟩
    -- s0 and the node agree
    funext k j
    by_cases hk : k = 21
    · subst hk
      have q : zu s0 17 8 ((P : Int) + 1) 21 j = zu (nwP s P c one other) 17 8 ((P : Int) + 1) 21 j := by rw [← e0, e1]
      rw [zu_ne _ _ _ _ _ (by decide), zu_ne _ _ _ _ _ (by decide)] at q
      exact q
    · rw [hv0.k k hk]
/-- a new node's facts -/
theorem PN.facts {P : Nat} {c one other : Int} {s s2 : aZ} (hP : P < 17000) (hc : inR c) (h1 : -1 ≤ one ∧ one < P) (h2 : -1 ≤ other ∧ other < P) (hS : PS P s) (h : PN P c one other s s2) (hF : c = 2 → 0 ≤ one ∧ 0 ≤ other := by omega) : PS (P + 1) s2 ∧ (∀ k, k ≠ 17 → (k < 18 ∨ 23 < k) → s2 k = s k) ∧ (∀ j, j ≠ 8 → zz s2 17 j = zz s 17 j) ∧ (zz s2 18 P = c ∧ zz s2 19 P = one ∧ zz s2 20 P = other ∧ zz s2 21 P = P) ∧ (∀ k j, 18 ≤ k → k ≤ 23 → k ≠ 21 → j ≠ P → zz s2 k j = zz s k j) := by
  obtain ⟨s1, a, b, rfl, hv, ra, rb, -⟩ := h
  obtain ⟨p0, p1, p2, p3⟩ := hS
  obtain ⟨n1, n2, n3, n4⟩ := nwP_at s P c one other hP hc ⟨by omega, by omega⟩ ⟨by omega, by omega⟩
  have hpp : PP P (nwP s P c one other) := fun j hj => by rw [nwP_ne _ _ _ _ _ _ _ (by omega)]; exact p2 j hj
  have hp1 := hv.pp hpp
  have z : ∀ k j, k ≠ 17 → (k < 22 ∨ 23 < k ∨ j ≠ P) → zz (zu (zu (zu s1 22 P a) 23 P b) 17 8 ((P : Int) + 1)) k j = zz s1 k j := fun k j g1 g2 => by rw [zz_ne _ _ _ _ _ _ (by omega), zz_ne _ _ _ _ _ _ (by omega), zz_ne _ _ _ _ _ _ (by omega)]
  have y : ∀ k j, k ≠ 21 → zz s1 k j = zz (nwP s P c one other) k j := fun k j g => zz_of (hv.k k g) j
  have y21 : zz s1 21 P = P := (hv.up P (Nat.le_refl _)).trans n4
  refine ⟨⟨by omega, ?_, fun j hj => ?_, fun j hj => ?_⟩, fun k g1 g2 => ?_, fun j hj => ?_, ⟨?_, ?_, ?_, ?_⟩, fun k j g1 g2 g3 g4 => ?_⟩
  · rw [zz_same _ _ _ ⟨by omega, by omega⟩]; rfl
  · rw [z 21 j (by decide) (by omega)]
    by_cases e : j = P
    · subst e; rw [y21]; omega
    · have := hp1 j (by omega); omega
  · rw [z 18 j (by decide) (by omega), z 19 j (by decide) (by omega), z 20 j (by decide) (by omega), y 18 j (by decide), y 19 j (by decide), y 20 j (by decide)]
    by_cases e : j = P
    · subst e; rw [n1, n2, n3]; omega
    · rw [nwP_ne _ _ _ _ _ _ _ (by omega), nwP_ne _ _ _ _ _ _ _ (by omega), nwP_ne _ _ _ _ _ _ _ (by omega)]
      have := p3 j (by omega); omega
  · rw [zu_ne _ _ _ _ _ g1, zu_ne _ _ _ _ _ (by omega), zu_ne _ _ _ _ _ (by omega), hv.k k (by omega), nwP_k _ _ _ _ _ _ (by omega)]
  · rw [zz_ne _ _ _ _ _ _ (by omega), zz_ne _ _ _ _ _ _ (by omega), zz_ne _ _ _ _ _ _ (by omega), y 17 j (by decide), nwP_ne _ _ _ _ _ _ _ (by omega)]
  · rw [z 18 P (by decide) (by omega), y 18 P (by decide), n1]
  · rw [z 19 P (by decide) (by omega), y 19 P (by decide), n2]
  · rw [z 20 P (by decide) (by omega), y 20 P (by decide), n3]
  · rw [z 21 P (by decide) (by omega), y21]
  · rw [z k j (by omega) (by omega), y k j g3, nwP_ne _ _ _ _ _ _ _ (by omega)]
/-- where the parts speak for themselves -/
theorem PM.exact {P : Nat} {c one other : Int} {s s2 : aZ} (h : PM P c one other s s2) (g1 : rtP s one) (g2 : rtP s other) (b1 : 0 ≤ szP s 22 one ∧ szP s 22 one ≤ 100000) (b2 : 0 ≤ szP s 22 other ∧ szP s 22 other ≤ 100000) (b3 : 0 ≤ szP s 23 one ∧ szP s 23 one ≤ 100000) (b4 : 0 ≤ szP s 23 other ∧ szP s 23 other ≤ 100000) : (∀ j, j ≠ P → zz s2 21 j = zz s 21 j) ∧ zz s2 22 P = 1 + szP s 22 one + szP s 22 other ∧ zz s2 23 P = max (szP s 23 one) (szP s 23 other) + 1 := by
  obtain ⟨s1, a, b, rfl, hv, ra, rb, he⟩ := h
  obtain ⟨e1, e2, e3⟩ := he g1 g2
  have e2 := e2 ⟨by omega, by omega⟩
  have e3 := e3 ⟨by omega, by omega⟩ b3.1
  subst e1
  refine ⟨fun j hj => ?_, ?_, ?_⟩
  · rw [zz_ne _ _ _ _ _ _ (by omega), zz_ne _ _ _ _ _ _ (by omega), zz_ne _ _ _ _ _ _ (by omega), nwP_ne _ _ _ _ _ _ _ (by omega)]
  · rw [zz_ne _ _ _ _ _ _ (by omega), zz_ne _ _ _ _ _ _ (by omega), zz_same _ _ _ ra, e2]; omega
  · rw [zz_ne _ _ _ _ _ _ (by omega), zz_same _ _ _ rb, e3]
theorem PN.same {P : Nat} {c one other : Int} {s s2 : aZ} (h : PN P c one other s s2) (g1 : rtP s one) (g2 : rtP s other) : ∀ j, j ≠ P → zz s2 21 j = zz s 21 j := by
  obtain ⟨s1, a, b, rfl, hv, ra, rb, he⟩ := h
  have e1 := he g1 g2
  subst e1
  intro j hj
  rw [zz_ne _ _ _ _ _ _ (by omega), zz_ne _ _ _ _ _ _ (by omega), zz_ne _ _ _ _ _ _ (by omega), nwP_ne _ _ _ _ _ _ _ (by omega)]
theorem PM.facts {P : Nat} {c one other : Int} {s s2 : aZ} (hP : P < 17000) (hc : inR c) (h1 : -1 ≤ one ∧ one < P) (h2 : -1 ≤ other ∧ other < P) (hS : PS P s) (h : PM P c one other s s2) (hF : c = 2 → 0 ≤ one ∧ 0 ≤ other := by omega) : PS (P + 1) s2 ∧ (∀ k, k ≠ 17 → (k < 18 ∨ 23 < k) → s2 k = s k) ∧ (∀ j, j ≠ 8 → zz s2 17 j = zz s 17 j) ∧ (zz s2 18 P = c ∧ zz s2 19 P = one ∧ zz s2 20 P = other ∧ zz s2 21 P = P) ∧ (∀ k j, 18 ≤ k → k ≤ 23 → k ≠ 21 → j ≠ P → zz s2 k j = zz s k j) := h.pn.facts hP hc h1 h2 hS hF
theorem x_unknown {d : Nat} {B : aH} (hB : a_Can B) (hd : 5 ≤ d) (l : aZL) (P : Nat) (hP : P < 17000) (s : aZ) (hS : PS P s) : a_W d 47 0 [.ref 17] [] (mkH B s l) (fun q => ∃ s2, q = (.inl (some (iv (P : Int))), mkH B s2 l) ∧ PN P (-1000000) (-1) (-1) s s2) := by
  refine w47_0 hB (by omega) s l (a_W.imp (x_add hB (by omega) l P hP s hS (-1000000) (-1) (-1) (by decide) ⟨by omega, by omega⟩ ⟨by omega, by omega⟩) ?_)
  rintro _ ⟨s2, rfl, h⟩
  exact ⟨_, s2, l, rfl, s2, rfl, h⟩
theorem x_function {d : Nat} {B : aH} (hB : a_Can B) (hd : 5 ≤ d) (l : aZL) (P : Nat) (hP : P < 17000) (s : aZ) (hS : PS P s) (one other : Int) (h1 : -1 ≤ one ∧ one < P) (h2 : -1 ≤ other ∧ other < P) : a_W d 74 0 [.ref 17, iv one, iv other] [] (mkH B s l) (fun q => ∃ s2, q = (.inl (some (iv (P : Int))), mkH B s2 l) ∧ PN P 2 one other s s2) := by
  refine w74_0 hB (by omega) one other s l (a_W.imp (x_add hB (by omega) l P hP s hS 2 one other (by decide) h1 h2) ?_)
  rintro _ ⟨s2, rfl, h⟩
  exact ⟨_, s2, l, rfl, s2, rfl, h⟩
/-- a new node, or none where the pool is full -/
def PG (P : Nat) (c one other : Int) (s s2 : aZ) (w P2 : Nat) : Prop := (P < 17000 ∧ w = P ∧ P2 = P + 1 ∧ PN P c one other s s2) ∨ (P = 17000 ∧ w = 0 ∧ P2 = P ∧ s2 = zu s 17 11 1)
theorem x_addG {d : Nat} {B : aH} (hB : a_Can B) (hd : 4 ≤ d) (l : aZL) (P : Nat) (hP : P ≤ 17000) (s : aZ) (hS : PS P s) (c one other : Int) (hc : inR c) (h1 : -1 ≤ one ∧ one < P) (h2 : -1 ≤ other ∧ other < P) : a_W d 48 0 [.ref 17, iv c, iv one, iv other] [] (mkH B s l) (fun q => ∃ (s2 : aZ) (w P2 : Nat), q = (.inl (some (iv (w : Int))), mkH B s2 l) ∧ PG P c one other s s2 w P2) := by
  by_cases h : P < 17000
  · refine a_W.imp (x_add hB hd l P h s hS c one other hc h1 h2) ?_
    rintro _ ⟨s2, rfl, hN⟩
    exact ⟨s2, P, P + 1, rfl, Or.inl ⟨h, rfl, rfl, hN⟩⟩
  · have e8 := hS.2.1
    exact w48_0 hB c one other s l ⟨fun c => absurd c (by omega), fun _ => ⟨_, 0, P, rfl, Or.inr ⟨by omega, rfl, rfl, rfl⟩⟩⟩
theorem x_unknownG {d : Nat} {B : aH} (hB : a_Can B) (hd : 5 ≤ d) (l : aZL) (P : Nat) (hP : P ≤ 17000) (s : aZ) (hS : PS P s) : a_W d 47 0 [.ref 17] [] (mkH B s l) (fun q => ∃ (s2 : aZ) (w P2 : Nat), q = (.inl (some (iv (w : Int))), mkH B s2 l) ∧ PG P (-1000000) (-1) (-1) s s2 w P2) := by
  refine w47_0 hB (by omega) s l (a_W.imp (x_addG hB (by omega) l P hP s hS (-1000000) (-1) (-1) (by decide) ⟨by omega, by omega⟩ ⟨by omega, by omega⟩) ?_)
  rintro _ ⟨s2, w, P2, rfl, h⟩
  exact ⟨_, s2, l, rfl, s2, w, P2, rfl, h⟩
theorem x_functionG {d : Nat} {B : aH} (hB : a_Can B) (hd : 5 ≤ d) (l : aZL) (P : Nat) (hP : P ≤ 17000) (s : aZ) (hS : PS P s) (one other : Int) (h1 : -1 ≤ one ∧ one < P) (h2 : -1 ≤ other ∧ other < P) : a_W d 74 0 [.ref 17, iv one, iv other] [] (mkH B s l) (fun q => ∃ (s2 : aZ) (w P2 : Nat), q = (.inl (some (iv (w : Int))), mkH B s2 l) ∧ PG P 2 one other s s2 w P2) := by
  refine w74_0 hB (by omega) one other s l (a_W.imp (x_addG hB (by omega) l P hP s hS 2 one other (by decide) h1 h2) ?_)
  rintro _ ⟨s2, w, P2, rfl, h⟩
  exact ⟨_, s2, l, rfl, s2, w, P2, rfl, h⟩
/-- a written node, or none where the pool is full -/
def PGm (P : Nat) (c one other : Int) (s s2 : aZ) (w P2 : Nat) : Prop := (P < 17000 ∧ w = P ∧ P2 = P + 1 ∧ PM P c one other s s2) ∨ (P = 17000 ∧ w = 0 ∧ P2 = P ∧ ∃ (s1 : aZ) (a b : Int), s2 = zu (zu s1 22 0 a) 23 0 b ∧ Hv P (zu s 17 11 1) s1)
theorem x_writG {d : Nat} {B : aH} (hB : a_Can B) (hd : 4 ≤ d) (l : aZL) (P : Nat) (hP : P ≤ 17000) (s : aZ) (hS : PS P s) (c one other : Int) (hc : inR c) (h1 : -1 ≤ one ∧ one < P) (h2 : -1 ≤ other ∧ other < P) : a_W d 64 0 [.ref 17, iv c, iv one, iv other, .retAddr 0] [] (mkH B s l) (fun q => ∃ (s2 : aZ) (w P2 : Nat), q = (.inl (some (iv (w : Int))), mkH B s2 l) ∧ PGm P c one other s s2 w P2) := by
  by_cases h : P < 17000
  · refine a_W.imp (x_writ hB hd l P h s hS c one other hc h1 h2) ?_
    rintro _ ⟨s2, rfl, hN⟩
    exact ⟨s2, P, P + 1, rfl, Or.inl ⟨h, rfl, rfl, hN⟩⟩
  · have e8 := hS.2.1
    have p2 := hS.2.2.1
    have p3 := hS.2.2.2 0 (by omega)
    have zk : ∀ k j, k ≠ 17 → zz (zu s 17 11 1) k j = zz s k j := fun k j hk => zz_ne _ _ _ _ _ _ (fun q => hk q.1)
    refine w64_0 hB (by omega) c one other s l (w48_0 hB c one other s l ⟨fun c => absurd c (by omega), fun _ => ⟨0, _, l, rfl, ?_⟩⟩)
    refine a_W.imp (x_measure hB (by omega) l P hP 0 (by decide) (zu s 17 11 1) (fun j hj => by rw [zk 21 j (by decide)]; exact p2 j hj) (by rw [zk 19 0 (by decide)]; exact p3.1) (by rw [zk 20 0 (by decide)]; exact p3.2.1)) ?_
    rintro _ ⟨s1, a, b, rfl, hv, -⟩
    exact ⟨_, l, rfl, _, 0, P, rfl, Or.inr ⟨by omega, rfl, rfl, s1, a, b, rfl, hv⟩⟩
/-- what is written but is no type -/
theorem x_wrong {d : Nat} {B : aH} (hB : a_Can B) (hd : 6 ≤ d) (l : aZL) (P : Nat) (hP : P ≤ 17000) (s : aZ) (hS : PS P s) (a b : Int) : a_W d 91 0 [.ref 17, iv a, iv b, .retAddr 0] [] (mkH B s l) (fun q => ∃ (s1 : aZ) (w P2 : Nat), q = (.inl (some (iv (w : Int))), mkH B (zu (zu s1 22 w a) 23 w b) l) ∧ PG P (-1000000) (-1) (-1) s s1 w P2) := by
  refine w91_0 hB (by omega) a b s l (a_W.imp (x_unknownG hB (by omega) l P hP s hS) ?_)
  rintro _ ⟨s1, w, P2, rfl, h⟩
  have hw : w < 17000 := by
    rcases h with ⟨g1, rfl, -⟩ | ⟨-, rfl, -⟩
    · exact g1
    · decide
  refine ⟨_, s1, l, rfl, ⟨by omega, by omega⟩, s1, w, P2, ?_, h⟩
  rw [natc]
