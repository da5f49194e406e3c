/-! THE REFERENCE LOOKS AND NEEDS -/
theorem tkF_val (t : Nat → Int) (n p : Nat) : tkF t n p = 0 ∨ tkF t n p = 1 ∨ tkF t n p = 8 := by
  unfold tkF
  repeat' split
  all_goals decide
theorem ft_val (t : Nat → Int) (n i : Nat) : ftT t n i = 0 ∨ ftT t n i = 1 ∨ ftT t n i = 8 := by
  unfold ftT
  split
  · split
    · decide
    · exact tkF_val t n _
  · decide
theorem z43_rng (c d e : Int) : z43 c d e = -1 ∨ (1 ≤ z43 c d e ∧ z43 c d e ≤ 23) := by unfold z43; omega
theorem z44_rng (c d : Int) : z44 c d = -1 ∨ (1 ≤ z44 c d ∧ z44 c d ≤ 23) := by unfold z44; omega
theorem z45_rng (c : Int) : z45 c = -1 ∨ (1 ≤ z45 c ∧ z45 c ≤ 23) := by unfold z45; omega
theorem tkK_rng (t : Nat → Int) (n p : Nat) : tkK t n p = -1 ∨ (1 ≤ tkK t n p ∧ tkK t n p ≤ 23) := by
  unfold tkK
  split
  · split <;> decide
  · split
    · decide
    · split
      · decide
      · split
        · exact z43_rng _ _ _
        · split
          · exact z44_rng _ _
          · exact z45_rng _
theorem tkK_pos {t : Nat → Int} {n p : Nat} (h : tkF t n p = 0) : 1 ≤ tkK t n p ∧ tkK t n p ≤ 23 := by
  rcases tkK_rng t n p with e | e
  · exfalso
    have e2 := e
    unfold tkK at e
    unfold tkF at h
    split at e
    · split at e <;> exact absurd e (by decide)
    · rename_i h1
      rw [if_neg h1] at h
      split at e
      · exact absurd e (by decide)
      · rename_i h2
        rw [if_neg h2] at h
        split at e
        · exact absurd e (by decide)
        · rename_i h3
          rw [if_neg h3, if_pos e2] at h
          exact absurd h (by decide)
  · exact e
theorem kd_rng {t : Nat → Int} {n i : Nat} (h : ftT t n i = 0) : 0 ≤ kdT t n i ∧ kdT t n i ≤ 23 ∧ (kdT t n i = 0 ↔ n ≤ stT t n i) := by
  unfold kdT
  by_cases hs : stT t n i < n
  · rw [if_pos hs]
    have := tkK_pos (ft0 h hs).2
    omega
  · rw [if_neg hs]
    omega
theorem kM_inj {a b : Int} (ha : 0 ≤ a ∧ a ≤ 23) (hb : 0 ≤ b ∧ b ≤ 23) : kM a = kM b ↔ a = b := by
  constructor
  · intro h
    unfold kM at h
    omega
  · intro h
    rw [h]
theorem inR_kM {a : Int} (ha : 0 ≤ a ∧ a ≤ 23) : inR (kM a) := by
  constructor <;> (unfold kM; omega)
theorem at_le {t : Nat → Int} {n m : Nat} (h : ∀ j, j < m → stT t n j < n ∧ ftT t n j = 0) : atT t n m ≤ n := by
  cases m with
  | zero => exact Nat.zero_le _
  | succ j =>
    obtain ⟨h1, h2⟩ := h j (Nat.lt_succ_self _)
    rw [atT_s, if_pos h1]
    exact (tkE_le h1 (ft0 h2 h1).2).2
theorem m_look {d : Nat} {B : aH} (hB : a_Can B) (hd : 4 ≤ d) {t : Nat → Int} {n : Nat} {vs : List (List Int)} (hcap : MCap t n vs) {s : aZ} {l : aZL} (m i o : Nat) (hC : MC t n vs m i s l) (hmk : m = i + o ∨ m = i + o + 1) (hl : ∀ j, j < i + o → stT t n j < n) : a_W d 148 0 [.ref 56, iv (o : Int), .retAddr 0] [] (mkH B s l) (fun q => ∃ s2 l2, FrM s s2 l l2 ∧ ((ftT t n (i + o) = 0 ∧ q = (.inl (some (iv (kM (kdT t n (i + o))))), mkH B s2 l2) ∧ MC t n vs (i + o + 1) i s2 l2) ∨ (ftT t n (i + o) ≠ 0 ∧ q = (.inl (some (iv 0)), mkH B s2 l2) ∧ MF t n (ftT t n (i + o)) (stT t n (i + o)) (nsT t n vs (i + o + 1)) s2 l2))) := by
  have hft : ∀ j, j < i + o → ftT t n j = 0 := fun j hj => (hC.2.2.2.2.2.2.2.1 j (by omega)).1
  have h6 : i + o ≤ 6000 := by
    rcases Nat.eq_zero_or_pos (i + o) with e | e
    · omega
    · have := ft0 (hft (i + o - 1) (by omega)) (hl (i + o - 1) (by omega))
      omega
  have done : ∀ (s2 : aZ) (l2 : aZL), FrM s s2 l l2 → MC t n vs (i + o + 1) i s2 l2 → a_W d 148 7 [.ref 56, iv (o : Int), iv ((i + o : Nat) : Int)] [] (mkH B s2 l2) (fun q => ∃ s2 l2, FrM s s2 l l2 ∧ ((ftT t n (i + o) = 0 ∧ q = (.inl (some (iv (kM (kdT t n (i + o))))), mkH B s2 l2) ∧ MC t n vs (i + o + 1) i s2 l2) ∨ (ftT t n (i + o) ≠ 0 ∧ q = (.inl (some (iv 0)), mkH B s2 l2) ∧ MF t n (ftT t n (i + o)) (stT t n (i + o)) (nsT t n vs (i + o + 1)) s2 l2))) := by
    intro s2 l2 hf hC2
    have c2 := hC2.2.1
    have c5 := hC2.2.2.2.2.1
    have hk := hC2.2.2.2.2.2.2.2.1 (i + o) (Nat.lt_succ_self _)
    refine w148_7 hB (by omega) _ _ s2 l2 ⟨⟨by omega, by omega⟩, fun _ => ⟨fun _ => ⟨⟨by omega, by omega⟩, ?_⟩, fun h => absurd h (by omega)⟩, fun h => absurd h (by omega)⟩
    rw [natc, hk.2.1]
    exact ⟨s2, l2, hf, Or.inl ⟨hk.1, rfl, hC2⟩⟩
  refine w148_0 hB _ s l ?_
  rw [hC.2.2.2.1, show (i : Int) + (o : Int) = ((i + o : Nat) : Int) by omega]
  rcases hmk with hm | hm
  · subst hm
    have c2 := hC.2.1
    have c5 := hC.2.2.2.2.1
    refine w148_7 hB (by omega) _ _ s l ⟨⟨by omega, by omega⟩, fun h => absurd h (by omega), fun _ => ⟨fun h => absurd c2 h, fun _ => ?_⟩⟩
    refine a_W.imp (m_scan hB (by omega) hcap (i + o) i h6 hC (fun j hj => hl j (by omega)) (at_le (fun j hj => ⟨hl j hj, hft j hj⟩))) ?_
    rintro _ ⟨s2, l2, rfl, hf, k1, k2⟩
    refine ⟨s2, l2, rfl, ?_⟩
    by_cases h0 : ftT t n (i + o) = 0
    · exact done s2 l2 hf (k1 h0)
    · obtain ⟨g1, g2, g3⟩ := k2 h0
      have hpos : 0 < ftT t n (i + o) := by rcases ft_val t n (i + o) with e | e | e <;> omega
      have hF : MF t n (ftT t n (i + o)) (stT t n (i + o)) (nsT t n vs (i + o + 1)) s2 l2 := ⟨hC.1.fr hf, hpos, g1, g2, by rw [hf.2.1 31 (by decide), hC.2.2.2.1]; omega, by rw [hf.2.1 31 (by decide), hC.2.2.2.1]; omega, g3⟩
      have q0 : ∃ s3 l3, FrM s s3 l l3 ∧ ((ftT t n (i + o) = 0 ∧ ((.inl (some (iv 0)), mkH B s2 l2) : aR) = (.inl (some (iv (kM (kdT t n (i + o))))), mkH B s3 l3) ∧ MC t n vs (i + o + 1) i s3 l3) ∨ (ftT t n (i + o) ≠ 0 ∧ ((.inl (some (iv 0)), mkH B s2 l2) : aR) = (.inl (some (iv 0)), mkH B s3 l3) ∧ MF t n (ftT t n (i + o)) (stT t n (i + o)) (nsT t n vs (i + o + 1)) s3 l3)) := ⟨s2, l2, hf, Or.inr ⟨h0, rfl, hF⟩⟩
      exact w148_7 hB (by omega) _ _ s2 l2 ⟨⟨by omega, by omega⟩, fun _ => ⟨fun h => absurd h (by omega), fun _ => q0⟩, fun _ => ⟨fun _ => ⟨fun h => absurd h (by omega), fun _ => q0⟩, fun h => absurd h (by omega)⟩⟩
  · subst hm
    exact done s l (FrM.rf s l) hC
/-- behind a fault it looks at nothing -/
theorem m_look_f {d : Nat} {B : aH} (hB : a_Can B) (hd : 1 ≤ d) {t : Nat → Int} {n : Nat} {vs : List (List Int)} {f p : Int} {s : aZ} {l : aZL} (hF : MF t n f p vs s l) (o : Nat) (ho : o ≤ 1) : a_W d 148 0 [.ref 56, iv (o : Int), .retAddr 0] [] (mkH B s l) (fun q => q = (.inl (some (iv 0)), mkH B s l)) := by
  obtain ⟨f1, f2, f3, f4, f5, f6, f7⟩ := hF
  refine w148_0 hB _ s l (w148_7 hB (by omega) _ _ s l ⟨⟨by omega, by omega⟩, fun _ => ⟨fun h => absurd h (by omega), fun _ => rfl⟩, fun _ => ⟨fun _ => ⟨fun h => absurd h (by omega), fun _ => rfl⟩, fun h => absurd h (by omega)⟩⟩)
/-- the reference's place is at token i, which may be unread -/
def MAt (t : Nat → Int) (n : Nat) (vs : List (List Int)) (i : Nat) (s : aZ) (l : aZL) : Prop := (MC t n vs i i s l ∨ MC t n vs (i + 1) i s l) ∧ ∀ j, j < i → stT t n j < n
theorem MC.now {t : Nat → Int} {n : Nat} {vs : List (List Int)} {m i i2 : Nat} {s : aZ} {l : aZL} (h : MC t n vs m i s l) (hi : i2 ≤ 7000) : MC t n vs m i2 (zu s 56 31 (i2 : Int)) l := by
  obtain ⟨c1, c2, c3, c4, c5, c6, c7, c8, c9⟩ := h
  have f : ∀ j, j ≠ 31 → zz (zu s 56 31 (i2 : Int)) 56 j = zz s 56 j := fun j hj => zz_ne _ _ _ _ _ _ (fun q => hj q.2)
  have g : ∀ k j, k ≠ 56 → zz (zu s 56 31 (i2 : Int)) k j = zz s k j := fun k j hk => zz_ne _ _ _ _ _ _ (fun q => hk q.1)
  refine ⟨⟨(f 24 (by decide)).trans c1.1, c1.2.1, fun j hj => ⟨(g 57 j (by decide)).trans (c1.2.2 j hj).1, (c1.2.2 j hj).2⟩⟩, (f 22 (by decide)).trans c2, (f 23 (by decide)).trans c3, zz_same _ _ _ ⟨by omega, by omega⟩, (f 26 (by decide)).trans c5, (f 25 (by decide)).trans c6, c7.fr (f 5 (by decide)) rfl, fun j hj => ?_, c9⟩
  obtain ⟨t1, t2, t3, t4, t5, t6⟩ := c8 j hj
  exact ⟨t1, (g 71 j (by decide)).trans t2, (g 72 j (by decide)).trans t3, fun q => (g 73 j (by decide)).trans (t4 q), fun q => (g 73 j (by decide)).trans (t5 q), t6⟩
theorem MC.die {t : Nat → Int} {n : Nat} {vs : List (List Int)} {m i : Nat} {s : aZ} {l : aZL} (h : MC t n vs m i s l) (hi : i < 6002) (f p : Int) (hf : 0 < f ∧ f ≤ 8) (hp : inR p) : MF t n f p (nsT t n vs m) (zu (zu s 56 22 f) 56 23 p) l := by
  obtain ⟨c1, c2, c3, c4, c5, c6, c7, c8, c9⟩ := h
  have q : ∀ j, j ≠ 22 → j ≠ 23 → zz (zu (zu s 56 22 f) 56 23 p) 56 j = zz s 56 j := fun j h1 h2 => by rw [zz_ne _ _ _ _ _ _ (fun q => h2 q.2), zz_ne _ _ _ _ _ _ (fun q => h1 q.2)]
  have g : ∀ k j, k ≠ 56 → zz (zu (zu s 56 22 f) 56 23 p) k j = zz s k j := fun k j hk => by rw [zz_ne _ _ _ _ _ _ (fun q => hk q.1), zz_ne _ _ _ _ _ _ (fun q => hk q.1)]
  refine ⟨⟨(q 24 (by decide) (by decide)).trans c1.1, c1.2.1, fun j hj => ⟨(g 57 j (by decide)).trans (c1.2.2 j hj).1, (c1.2.2 j hj).2⟩⟩, hf.1, ?_, zz_same _ _ _ hp, by rw [q 31 (by decide) (by decide), c4]; omega, by rw [q 31 (by decide) (by decide), c4]; omega, c7.fr (q 5 (by decide) (by decide)) rfl⟩
  rw [zz_ne _ _ _ _ _ _ (by decide), zz_same _ _ _ ⟨by omega, by omega⟩]
theorem MAt.le {t : Nat → Int} {n : Nat} {vs : List (List Int)} {i : Nat} {s : aZ} {l : aZL} (h : MAt t n vs i s l) : i ≤ 6000 := by
  rcases Nat.eq_zero_or_pos i with e | e
  · omega
  · have hs := h.2 (i - 1) (by omega)
    have hf : ftT t n (i - 1) = 0 := by
      rcases h.1 with c | c
      · exact (c.2.2.2.2.2.2.2.1 (i - 1) (by omega)).1
      · exact (c.2.2.2.2.2.2.2.1 (i - 1) (by omega)).1
    have := ft0 hf hs
    omega
/-- what a look at the place comes to -/
def LKP (t : Nat → Int) (n : Nat) (vs : List (List Int)) (i : Nat) (B : aH) (s : aZ) (l : aZL) (q : aR) : Prop := ∃ s2 l2, FrM s s2 l l2 ∧ ((ftT t n i = 0 ∧ q = (.inl (some (iv (kM (kdT t n i)))), mkH B s2 l2) ∧ MC t n vs (i + 1) i s2 l2) ∨ (ftT t n i ≠ 0 ∧ q = (.inl (some (iv 0)), mkH B s2 l2) ∧ MF t n (ftT t n i) (stT t n i) (nsT t n vs (i + 1)) s2 l2))
theorem m_look0 {d : Nat} {B : aH} (hB : a_Can B) (hd : 4 ≤ d) {t : Nat → Int} {n : Nat} {vs : List (List Int)} (hcap : MCap t n vs) {s : aZ} {l : aZL} (i : Nat) (h : MAt t n vs i s l) : a_W d 148 0 [.ref 56, iv 0, .retAddr 0] [] (mkH B s l) (LKP t n vs i B s l) := by
  rcases h.1 with c | c
  · exact m_look hB hd hcap i i 0 c (Or.inl rfl) h.2
  · exact m_look hB hd hcap (i + 1) i 0 c (Or.inr rfl) h.2
/-- the place goes on if token i is of this kind; else a fault there -/
theorem m_need {d : Nat} {B : aH} (hB : a_Can B) (hd : 5 ≤ d) {t : Nat → Int} {n : Nat} {vs : List (List Int)} (hcap : MCap t n vs) {s : aZ} {l : aZL} (i : Nat) (k : Int) (hk : 0 ≤ k ∧ k ≤ 23) (h : MAt t n vs i s l) : a_W d 166 0 [.ref 56, iv (kM k)] [] (mkH B s l) (fun q => ∃ s2 l2, q = (.inl none, mkH B s2 l2) ∧ ((ftT t n i = 0 ∧ kdT t n i = k ∧ MC t n vs (i + 1) (i + 1) s2 l2 ∧ (∃ s1, FrM s s1 l l2 ∧ s2 = zu s1 56 31 ((i : Int) + 1))) ∨ (ftT t n i = 0 ∧ kdT t n i ≠ k ∧ MF t n 2 (stT t n i) (nsT t n vs (i + 1)) s2 l2 ∧ FrM s s2 l l2) ∨ (ftT t n i ≠ 0 ∧ MF t n (ftT t n i) (stT t n i) (nsT t n vs (i + 1)) s2 l2 ∧ FrM s s2 l l2))) := by
  have hi6 := h.le
  refine w166_0 hB (by omega) _ s l (a_W.imp (m_look0 hB (by omega) hcap i h) ?_)
  rintro _ ⟨s2, l2, hf, ⟨h0, rfl, hC⟩ | ⟨h0, rfl, hF⟩⟩
  · have hr := kd_rng h0
    have c4 := hC.2.2.2.1
    have c2 := hC.2.1
    have c72 := (hC.2.2.2.2.2.2.2.1 i (Nat.lt_succ_self _)).2.2.1
    have e31 : (zz s2 56 31).toNat = i := by omega
    have r72 := inR_zz s2 72 i
    refine ⟨_, s2, l2, rfl, inR_kM ⟨hr.1, hr.2.1⟩, inR_kM hk, fun hne => ⟨⟨by omega, by omega⟩, fun _ => ?_, fun h => absurd h (by omega)⟩, fun he => ⟨fun h => absurd c2 h, fun _ => ?_⟩⟩
    · rw [e31, c72]
      rw [c72] at r72
      refine ⟨_, l2, rfl, Or.inr (Or.inl ⟨h0, fun e => hne (by rw [e]), hC.die (by omega) 2 _ (by decide) r72, ⟨fun k q1 q2 q3 q4 => ?_, fun j hj => ?_, hf.2.2⟩⟩)⟩
      · rw [zu_ne _ _ _ _ _ q1, zu_ne _ _ _ _ _ q1]; exact hf.1 k q1 q2 q3 q4
      · rw [zz_ne _ _ _ _ _ _ (fun q => hj (by rw [q.2]; decide)), zz_ne _ _ _ _ _ _ (fun q => hj (by rw [q.2]; decide))]; exact hf.2.1 j hj
    · rw [c4]
      exact ⟨_, l2, rfl, Or.inl ⟨h0, (kM_inj ⟨hr.1, hr.2.1⟩ hk).mp he, hC.now (i2 := i + 1) (by omega), s2, hf, rfl⟩⟩
  · obtain ⟨f1, f2, f3, f4, f5, f6, f7⟩ := hF
    refine ⟨_, s2, l2, rfl, by decide, inR_kM hk, fun hne => ⟨⟨by omega, by omega⟩, fun h => absurd h (by omega), fun _ => ⟨s2, l2, rfl, Or.inr (Or.inr ⟨h0, ⟨f1, f2, f3, f4, f5, f6, f7⟩, hf⟩)⟩⟩, fun he => ⟨fun _ => ⟨⟨by omega, by omega⟩, fun h => absurd h (by omega), fun _ => ⟨s2, l2, rfl, Or.inr (Or.inr ⟨h0, ⟨f1, f2, f3, f4, f5, f6, f7⟩, hf⟩)⟩⟩, fun h => absurd h (by omega)⟩⟩
theorem m_need_f {d : Nat} {B : aH} (hB : a_Can B) (hd : 2 ≤ d) {t : Nat → Int} {n : Nat} {vs : List (List Int)} {f p : Int} {s : aZ} {l : aZL} (hF : MF t n f p vs s l) (k : Int) (hk : inR k) : a_W d 166 0 [.ref 56, iv k] [] (mkH B s l) (fun q => q = (.inl none, mkH B s l)) := by
  refine w166_0 hB (by omega) _ s l (a_W.imp (m_look_f hB (by omega) hF 0 (by decide)) ?_)
  rintro _ rfl
  obtain ⟨f1, f2, f3, f4, f5, f6, f7⟩ := hF
  exact ⟨_, s, l, rfl, by decide, hk, fun hne => ⟨⟨by omega, by omega⟩, fun h => absurd h (by omega), fun _ => rfl⟩, fun he => ⟨fun _ => ⟨⟨by omega, by omega⟩, fun h => absurd h (by omega), fun _ => rfl⟩, fun h => absurd h (by omega)⟩⟩
