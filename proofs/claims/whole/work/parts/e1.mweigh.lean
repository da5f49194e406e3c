/-! THE REFERENCE WEIGHS A TYPE -/
def wvM (s : aZ) (x : Int) : Int := if x = -1 then 0 else zz s 101 x.toNat
def hvM (s : aZ) (x : Int) : Int := if x = -1 then 0 else zz s 102 x.toNat
/-- a weighed node -/
def wgM (s : aZ) (k : Nat) (w h : Int) : aZ := zu (zu (zu s 101 k w) 102 k h) 100 k 2
section
variable {B : aH} {Q : aR → Prop}
theorem m_w214 (hB : a_Can B) {d : Nat} (hd : 1 ≤ d) (x1 x2 : Int) (k : Nat) (hk : k < 60000) (va vb : Int) (u6 : Value) (s : aZ) (l : aZL) (ha : va = -1 ∨ (0 ≤ va ∧ va < 60000 ∧ 0 ≤ zz s 101 va.toNat ∧ zz s 101 va.toNat ≤ 100000)) (hb : vb = -1 ∨ (0 ≤ vb ∧ vb < 60000 ∧ 0 ≤ zz s 101 vb.toNat ∧ zz s 101 vb.toNat ≤ 100000)) (h : ∀ u : Value, a_W d 199 13 [.ref 56, iv x1, iv (x2 + (-1)), iv (k : Int), iv va, iv vb, u] [] (mkH B (wgM s k (min (1 + wvM s va + wvM s vb) 100000) (1 + max (hvM s va) (hvM s vb))) l) Q) : a_W d 199 214 [.ref 56, iv x1, iv x2, iv (k : Int), iv va, iv vb, u6] [] (mkH B s l) Q := by
  have z : ∀ x y : Int, z175 x y = max x y := fun x y => by unfold z175; omega
  unfold wgM at h
  refine w199_214 hB (by omega) _ _ _ _ _ _ s l ?_
  rw [natc]
  rcases ha with rfl | ⟨a1, a2, a3, a4⟩
  · have w1 : wvM s (-1) = 0 := rfl
    have w2 : hvM s (-1) = 0 := rfl
    rw [w1, w2] at h
    refine ⟨by decide, fun c => absurd rfl c, fun _ => ?_⟩
    rcases hb with rfl | ⟨b1, b2, b3, b4⟩
    · rw [w1, w2] at h
      refine ⟨by decide, fun c => absurd rfl c, fun _ => ⟨⟨by omega, by omega⟩, ?_⟩⟩
      rw [z]
      exact h _
    · have w3 : wvM s vb = zz s 101 vb.toNat := if_neg (by omega)
      have w4 : hvM s vb = zz s 102 vb.toNat := if_neg (by omega)
      rw [w3, w4] at h
      refine ⟨⟨by omega, by omega⟩, fun _ => ⟨⟨b1, b2⟩, ⟨by omega, by omega⟩, fun c => ⟨⟨by omega, by omega⟩, ?_⟩, fun c => ⟨⟨by omega, by omega⟩, ?_⟩⟩, fun c => absurd c (by omega)⟩
      · rw [z]
        rw [show min (1 + 0 + zz s 101 vb.toNat) 100000 = 1 + 0 + zz s 101 vb.toNat by omega] at h
        exact h _
      · rw [z]
        rw [show min (1 + 0 + zz s 101 vb.toNat) 100000 = 100000 by omega] at h
        exact h _
  · have w1 : wvM s va = zz s 101 va.toNat := if_neg (by omega)
    have w2 : hvM s va = zz s 102 va.toNat := if_neg (by omega)
    rw [w1, w2] at h
    refine ⟨⟨by omega, by omega⟩, fun _ => ⟨⟨a1, a2⟩, ?_⟩, fun c => absurd c (by omega)⟩
    rcases hb with rfl | ⟨b1, b2, b3, b4⟩
    · have w3 : wvM s (-1) = 0 := rfl
      have w4 : hvM s (-1) = 0 := rfl
      rw [w3, w4] at h
      refine ⟨by decide, fun c => absurd rfl c, fun _ => ⟨⟨by omega, by omega⟩, fun c => ⟨⟨by omega, by omega⟩, ?_⟩, fun c => ⟨⟨by omega, by omega⟩, ?_⟩⟩⟩
      · rw [z]
        rw [show min (1 + zz s 101 va.toNat + 0) 100000 = 1 + zz s 101 va.toNat + 0 by omega] at h
        exact h _
      · rw [z]
        rw [show min (1 + zz s 101 va.toNat + 0) 100000 = 100000 by omega] at h
        exact h _
    · have w3 : wvM s vb = zz s 101 vb.toNat := if_neg (by omega)
      have w4 : hvM s vb = zz s 102 vb.toNat := if_neg (by omega)
      rw [w3, w4] at h
      refine ⟨⟨by omega, by omega⟩, fun _ => ⟨⟨b1, b2⟩, ⟨by omega, by omega⟩, fun c => ⟨⟨by omega, by omega⟩, ?_⟩, fun c => ⟨⟨by omega, by omega⟩, ?_⟩⟩, fun c => absurd c (by omega)⟩
      · rw [z]
        rw [show min (1 + zz s 101 va.toNat + zz s 101 vb.toNat) 100000 = 1 + zz s 101 va.toNat + zz s 101 vb.toNat by omega] at h
        exact h _
      · rw [z]
        rw [show min (1 + zz s 101 va.toNat + zz s 101 vb.toNat) 100000 = 100000 by omega] at h
        exact h _
/-- the state of a node that is looked at; the fault of a circle -/
def diM (s : aZ) : aZ := zu (zu s 56 22 3) 56 23 (zz s 72 0)
/-- one turn: k is on top; va, vb its parts -/
theorem m_w13 (hB : a_Can B) {d : Nat} (hd : 2 ≤ d) {P : Nat} {rt u : Nat → Nat} (hP : P ≤ 29000) (s : aZ) (l : aZL) (hS : PMr P s) (hU : Uf P (vwM s) rt u) (h22 : zz s 56 22 = 0) (x1 : Int) (many k : Nat) (h1 : 1 ≤ many) (h2 : many ≤ 59000) (hk : k < P) (h103 : zz s 103 (many - 1) = (k : Nat)) (u3 u4 u5 u6 : Value) (va vb : Int) (eva : va = prt rt (zz s 65 k)) (evb : vb = prt rt (zz s 66 k))
    (hw : ∀ x : Int, (x = va ∨ x = vb) → x ≠ -1 → zz s 100 x.toNat = 2 → 0 ≤ zz s 101 x.toNat ∧ zz s 101 x.toNat ≤ 100000)
    (hs : ∀ j, j < P → 0 ≤ zz s 100 j ∧ zz s 100 j ≤ 2)
    (hdone : zz s 100 k = 2 → ∀ v3 v4 v5 v6 : Value, a_W d 199 13 [.ref 56, iv x1, iv ((many : Int) + (-1)), v3, v4, v5, v6] [] (mkH B s l) Q)
    (hpush : zz s 100 k ≠ 2 → ∀ x : Int, (x = va ∨ x = vb) → x ≠ -1 → zz (zu s 100 k 1) 100 x.toNat = 0 → ∀ v3 v4 v5 v6 : Value, a_W d 199 13 [.ref 56, iv x1, iv ((many : Int) + 1), v3, v4, v5, v6] [] (mkH B (zu (zu s 100 k 1) 103 many x) l) Q)
    (hcirc : zz s 100 k ≠ 2 → ∀ x : Int, (x = va ∨ x = vb) → x ≠ -1 → zz (zu s 100 k 1) 100 x.toNat = 1 → ∀ v3 v4 v5 v6 : Value, a_W d 199 13 [.ref 56, iv x1, iv ((many : Int) + 1), v3, v4, v5, v6] [] (mkH B (zu (diM (zu s 100 k 1)) 103 many x) l) Q)
    (hfin : zz s 100 k ≠ 2 → (∀ x : Int, (x = va ∨ x = vb) → x ≠ -1 → zz (zu s 100 k 1) 100 x.toNat = 2) → ∀ v3 v4 v5 v6 : Value, a_W d 199 13 [.ref 56, iv x1, iv ((many : Int) + (-1)), v3, v4, v5, v6] [] (mkH B (wgM (zu s 100 k 1) k (min (1 + wvM (zu s 100 k 1) va + wvM (zu s 100 k 1) vb) 100000) (1 + max (hvM (zu s 100 k 1) va) (hvM (zu s 100 k 1) vb))) l) Q) : a_W d 199 13 [.ref 56, iv x1, iv (many : Int), u3, u4, u5, u6] [] (mkH B s l) Q := by
  obtain ⟨r65, r66, -⟩ := hS.2 k hk
  have rgp : ∀ x : Int, -1 ≤ x → x < P → (prt rt x = -1 ↔ x = -1) ∧ (x ≠ -1 → prt rt x = ((rt x.toNat : Nat) : Int) ∧ rt x.toNat < P ∧ 0 ≤ x ∧ x.toNat < P) := fun x a b => by
    unfold prt
    by_cases c : x < 0
    · rw [if_pos c]; exact ⟨⟨fun _ => by omega, fun _ => rfl⟩, fun c2 => absurd (by omega) c2⟩
    · rw [if_neg c]; exact ⟨⟨fun h => by omega, fun h => by omega⟩, fun _ => ⟨rfl, (hU x.toNat (by omega)).2.1, by omega, by omega⟩⟩
  obtain ⟨pa1, pa2⟩ := rgp _ r65.1 r65.2
  obtain ⟨pb1, pb2⟩ := rgp _ r66.1 r66.2
  rw [← eva] at pa1 pa2
  rw [← evb] at pb1 pb2
  have vr : ∀ x : Int, (x = va ∨ x = vb) → x = -1 ∨ (0 ≤ x ∧ x < P) := fun x hx => by
    rcases hx with rfl | rfl
    · by_cases c : zz s 65 k = -1
      · exact Or.inl (pa1.mpr c)
      · have := pa2 c; right; omega
    · by_cases c : zz s 66 k = -1
      · exact Or.inl (pb1.mpr c)
      · have := pb2 c; right; omega
  -- the state with k looked at
  have y0 : ∀ c j, (c ≠ 100 ∨ j ≠ k) → zz (zu s 100 k 1) c j = zz s c j := fun c j h => zz_ne _ _ _ _ _ _ (by omega)
  have yk : zz (zu s 100 k 1) 100 k = 1 := zz_same _ _ _ (by decide)
  have st : ∀ j, j < P → 0 ≤ zz (zu s 100 k 1) 100 j ∧ zz (zu s 100 k 1) 100 j ≤ 2 := fun j hj => by
    by_cases e : j = k
    · rw [e, yk]; decide
    · rw [y0 100 j (Or.inr e)]; exact hs j hj
  have hw' : ∀ x : Int, (x = va ∨ x = vb) → x ≠ -1 → zz (zu s 100 k 1) 100 x.toNat = 2 → 0 ≤ zz (zu s 100 k 1) 101 x.toNat ∧ zz (zu s 100 k 1) 101 x.toNat ≤ 100000 := fun x hx hn h2 => by
    have hne : x.toNat ≠ k := fun e => by rw [e, yk] at h2; omega
    rw [y0 100 _ (Or.inr hne)] at h2
    rw [y0 101 _ (Or.inl (by decide))]
    exact hw x hx hn h2
  have d22 : zz (zu s 100 k 1) 56 22 = 0 := (y0 56 22 (Or.inl (by decide))).trans h22
  have d72 : zz (zu s 100 k 1) 72 0 = zz s 72 0 := y0 72 0 (Or.inl (by decide))
  -- the second part
  have at161 : zz s 100 k ≠ 2 → (va ≠ -1 → zz (zu s 100 k 1) 100 va.toNat = 2) → ∀ u6 : Value, a_W d 199 161 [.ref 56, iv x1, iv (many : Int), iv (k : Int), iv va, iv vb, u6] [] (mkH B (zu s 100 k 1) l) Q := fun hk2 hva u6 => by
    have go : (vb ≠ -1 → zz (zu s 100 k 1) 100 vb.toNat = 2) → a_W d 199 214 [.ref 56, iv x1, iv (many : Int), iv (k : Int), iv va, iv vb, u6] [] (mkH B (zu s 100 k 1) l) Q := fun hvb => by
      refine m_w214 hB (by omega) _ _ k (by omega) va vb u6 _ l ?_ ?_ (fun u => hfin hk2 (fun x hx hn => ?_) _ _ _ _)
      · rcases vr va (Or.inl rfl) with h | h
        · exact Or.inl h
        · exact Or.inr ⟨h.1, by omega, hw' va (Or.inl rfl) (by omega) (hva (by omega))⟩
      · rcases vr vb (Or.inr rfl) with h | h
        · exact Or.inl h
        · exact Or.inr ⟨h.1, by omega, hw' vb (Or.inr rfl) (by omega) (hvb (by omega))⟩
      · rcases hx with rfl | rfl
        · exact hva hn
        · exact hvb hn
    have rb := vr vb (Or.inr rfl)
    refine w199_161 hB (by omega) _ _ _ _ _ _ _ l ⟨⟨by omega, by omega⟩, fun c => go (fun c2 => absurd c c2), fun c => ⟨⟨by omega, by omega⟩, fun c2 => go (fun _ => ?_), fun c2 => ⟨fun c3 => ?_, fun c3 => ⟨fun _ => ?_, fun c4 => absurd c4 (by rw [d22]; decide)⟩⟩⟩⟩
    · have := st vb.toNat (by omega); omega
    · refine w199_200 hB _ _ _ _ _ _ _ l ⟨⟨by omega, by omega⟩, ?_⟩
      rw [natc]
      exact hpush hk2 vb (Or.inr rfl) c (by have := st vb.toNat (by omega); omega) _ _ _ _
    · refine w199_200 hB _ _ _ _ _ _ _ l ⟨⟨by omega, by omega⟩, ?_⟩
      rw [natc]
      exact hcirc hk2 vb (Or.inr rfl) c c3 _ _ _ _
  -- the first part
  have at1 : zz s 100 k ≠ 2 → va ≠ -1 → ∀ u6 : Value, (inR va ∧ ((va = (-1) → a_W d 199 161 [.ref 56, iv x1, iv (many : Int), iv (k : Int), iv va, iv vb, u6] [] (mkH B (zu s 100 k 1) l) Q) ∧ (va ≠ (-1) → ((0 ≤ va ∧ va < 60000) ∧ ((2 ≤ (zz (zu s 100 k 1) 100 va.toNat) → a_W d 199 161 [.ref 56, iv x1, iv (many : Int), iv (k : Int), iv va, iv vb, u6] [] (mkH B (zu s 100 k 1) l) Q) ∧ ((zz (zu s 100 k 1) 100 va.toNat) < 2 → (((zz (zu s 100 k 1) 100 va.toNat) ≠ 1 → a_W d 199 147 [.ref 56, iv x1, iv (many : Int), iv (k : Int), iv va, iv vb, u6] [] (mkH B (zu s 100 k 1) l) Q) ∧ ((zz (zu s 100 k 1) 100 va.toNat) = 1 → (((zz s 56 22) ≤ 0 → a_W d 199 147 [.ref 56, iv x1, iv (many : Int), iv (k : Int), iv va, iv vb, u6] [] (mkH B (zu (zu (zu s 100 k 1) 56 22 3) 56 23 (zz s 72 0)) l) Q) ∧ (0 < (zz s 56 22) → a_W d 199 147 [.ref 56, iv x1, iv (many : Int), iv (k : Int), iv va, iv vb, u6] [] (mkH B (zu s 100 k 1) l) Q)))))))))) := fun hk2 hva u6 => by
    have ra := vr va (Or.inl rfl)
    refine ⟨⟨by omega, by omega⟩, fun c => absurd c hva, fun _ => ⟨⟨by omega, by omega⟩, fun c2 => at161 hk2 (fun _ => ?_) _, fun c2 => ⟨fun c3 => ?_, fun c3 => ⟨fun _ => ?_, fun c4 => absurd c4 (by rw [h22]; decide)⟩⟩⟩⟩
    · have := st va.toNat (by omega); omega
    · refine w199_147 hB _ _ _ _ _ _ _ l ⟨⟨by omega, by omega⟩, ?_⟩
      rw [natc]
      exact hpush hk2 va (Or.inl rfl) hva (by have := st va.toNat (by omega); omega) _ _ _ _
    · refine w199_147 hB _ _ _ _ _ _ _ l ⟨⟨by omega, by omega⟩, ?_⟩
      rw [natc, ← d72]
      exact hcirc hk2 va (Or.inl rfl) hva c3 _ _ _ _
  refine w199_13 hB (by omega) _ _ _ _ _ _ s l ⟨⟨by omega, by omega⟩, fun c => absurd c (by omega), fun _ => ⟨fun c => absurd h22 c, fun _ => ⟨⟨by omega, by omega⟩, ?_⟩⟩⟩
  rw [show ((many : Int) - 1).toNat = many - 1 by omega, h103, natc]
  refine ⟨⟨by omega, by omega⟩, fun c65 => ?_, fun c65 => ⟨fun c66 => ?_, fun c66 => ?_⟩⟩
  · obtain ⟨q1, q2, q3, q4⟩ := pa2 c65
    have hva : va ≠ -1 := by omega
    obtain ⟨A, eA⟩ : ∃ A : Nat, zz s 65 k = A := ⟨(zz s 65 k).toNat, by omega⟩
    rw [eA, natc] at q1 q2 q4
    rw [eA]
    refine a_W.imp (m_last hB l (by omega) s hS hU A q4) ?_
    rintro _ rfl
    rw [← q1]
    refine ⟨_, s, l, rfl, fun c66 => ?_, fun c66 => ?_⟩
    · obtain ⟨w1, w2, w3, w4⟩ := pb2 c66
      obtain ⟨A2, eA2⟩ : ∃ A : Nat, zz s 66 k = A := ⟨(zz s 66 k).toNat, by omega⟩
      rw [eA2, natc] at w1 w2 w4
      rw [eA2]
      refine a_W.imp (m_last hB l (by omega) s hS hU A2 w4) ?_
      rintro _ rfl
      rw [← w1]
      exact ⟨_, s, l, rfl, fun hk2 => at1 hk2 hva u6, fun hk2 => hdone hk2 _ _ _ _⟩
    · have hvb : vb = -1 := pb1.mpr c66
      have a1 := fun hk2 => at1 hk2 hva u6
      rw [hvb] at a1
      exact ⟨fun hk2 => a1 hk2, fun hk2 => hdone hk2 _ _ _ _⟩
  · have hva : va = -1 := pa1.mpr c65
    have a2 := fun hk2 => at161 hk2 (fun c => absurd hva c) u6
    rw [hva] at a2
    obtain ⟨w1, w2, w3, w4⟩ := pb2 c66
    obtain ⟨A2, eA2⟩ : ∃ A : Nat, zz s 66 k = A := ⟨(zz s 66 k).toNat, by omega⟩
    rw [eA2, natc] at w1 w2 w4
    rw [eA2]
    refine a_W.imp (m_last hB l (by omega) s hS hU A2 w4) ?_
    rintro _ rfl
    rw [← w1]
    exact ⟨_, s, l, rfl, fun hk2 => a2 hk2, fun hk2 => hdone hk2 _ _ _ _⟩
  · have hva : va = -1 := pa1.mpr c65
    have hvb : vb = -1 := pb1.mpr c66
    have a2 := fun hk2 => at161 hk2 (fun c => absurd hva c) u6
    rw [hva, hvb] at a2
    exact ⟨fun hk2 => a2 hk2, fun hk2 => hdone hk2 _ _ _ _⟩
end
