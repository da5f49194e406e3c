/-! THE REFERENCE AT A TOKEN -/
theorem m_scanAny {d : Nat} {B : aH} (hB : a_Can B) (hd : 3 ≤ d) {t : Nat → Int} {n : Nat} {s : aZ} (l : aZL) (hT : MT t n s) (vs : List (List Int)) (hV : MV vs s l) (hcap : vs.length < 17000) (p m : Nat) (hp : p < n) (h25 : zz s 56 25 = p) (h26 : zz s 56 26 = m) (hm : m < 6002) (h22 : zz s 56 22 = 0) : a_W d 149 77 [.ref 56, .retAddr 0] [] (mkH B s l) (fun q => ∃ s2 l2, q = (.inl none, mkH B (zu s2 56 26 ((m : Int) + 1)) l2) ∧ MSC t n p m vs s l s2 l2) := by
  have h8 := hT.2.1
  have h24 := hT.1
  have b0 : bm t n p = t p := by unfold bm; rw [if_pos hp]
  have hr := (hT.2.2 p hp).2
  have fin : ∀ (x1 : Int) (s2 : aZ) (l2 : aZL), MSC t n p m vs s l s2 l2 → a_W d 149 166 [.ref 56, iv x1] [] (mkH B s2 l2) (fun q => ∃ s2 l2, q = (.inl none, mkH B (zu s2 56 26 ((m : Int) + 1)) l2) ∧ MSC t n p m vs s l s2 l2) := by
    intro x1 s2 l2 h
    refine w149_166 hB x1 s2 l2 ?_
    rw [h.2.1 26 (by decide), h26]
    exact ⟨s2, l2, rfl, h⟩
  have lf : MLF m l l := ⟨fun _ _ => rfl, fun _ _ _ => rfl⟩
  have e147 : (t p = 39 → ¬ z31 (bt t n (p + 1)) ≠ 0) → ¬ z31 (t p) ≠ 0 → a_W d 149 147 [.ref 56, iv (t p)] [] (mkH B s l) (fun q => ∃ s2 l2, q = (.inl none, mkH B (zu s2 56 26 ((m : Int) + 1)) l2) ∧ MSC t n p m vs s l s2 l2) := by
    intro k39 kz
    refine w149_147 hB (by omega) _ s l ⟨⟨by omega, by omega⟩, fun g => ?_, fun g => ?_⟩
    · rw [z155_34] at g
      refine a_W.imp (m_scanSign hB (by omega) l hT p m hp h25 h26 hm h22 kz (fun q => q g) k39) ?_
      rintro _ ⟨s2, rfl, h⟩
      refine ⟨s2, l, rfl, ?_⟩
      by_cases e : t p = 39
      · have eF : tkF t n p = 1 := by unfold tkF; rw [if_neg kz, if_pos e, if_neg (k39 e)]
        refine fin _ s2 l ⟨h.1, fun j hj => h.2.1 j (fun q => hj ?_), h.2.2.1, lf, ?_, fun q => absurd q (by rw [eF]; decide), h.2.2.2.2⟩
        · simp only [List.mem_cons, List.not_mem_nil, or_false] at q ⊢
          omega
        · unfold tkNs
          rw [if_neg (fun q => absurd q.2 (by rw [eF]; decide))]
          exact hV.fr (h.2.1 5 (by decide)) rfl
      · exact fin _ s2 l (MSC.of hV h (tkS_ne kz e (fun q => q g)).1 lf rfl (fun _ q => absurd q kz))
    · rw [z155_34] at g
      refine a_W.imp (m_scanNum hB (by omega) l hT p m hp h25 h26 hm h22 kz g) ?_
      rintro _ ⟨s2, rfl, h⟩
      refine ⟨s2, l, rfl, fin _ s2 l (MSC.of hV h ?_ lf rfl (fun _ q => absurd q kz))⟩
      have e : ¬ t p = 39 := fun e => by rw [z34_iff] at g; omega
      unfold tkK
      rw [if_neg kz, if_neg e, if_pos g]
      decide
  refine w149_77 hB (by omega) s l ⟨fun _ => ⟨by omega, by omega, ?_⟩, fun h => absurd h (by omega)⟩
  rw [h25, mby_eq hT, b0, z153_31]
  refine ⟨fun g1 => ⟨fun g2 => e147 (fun q => absurd q g2) (fun q => q g1), fun g2 => ⟨⟨by omega, by omega⟩, by omega, ?_⟩⟩, fun g1 => ?_⟩
  · rw [show (p : Int) + 1 = ((p + 1 : Nat) : Int) by omega, mby_eq hT, z153_31]
    have hbb : z31 (bm t n (p + 1)) = z31 (bt t n (p + 1)) := by
      unfold bm bt
      by_cases h : p + 1 < n
      · rw [if_pos h, if_pos h]
      · rw [if_neg h, if_neg h]
        rfl
    rw [hbb]
    refine ⟨fun g3 => e147 (fun _ q => q g3) (fun q => q g1), fun g3 => ?_⟩
    refine a_W.imp (m_scanVar hB (by omega) l hT vs hV hcap p m hp h25 h26 hm h22 (fun q => q g1) g2 g3) ?_
    rintro _ ⟨s2, l2, rfl, h⟩
    exact ⟨s2, l2, rfl, fin _ s2 l2 h⟩
  · refine a_W.imp (m_scanBare hB (by omega) l hT p m hp h25 h26 hm h22 g1) ?_
    rintro _ ⟨s2, l2, rfl, h, hl, h63, hw⟩
    refine ⟨s2, l2, rfl, fin _ s2 l2 (MSC.of hV h ?_ hl h63 (fun q _ => hw q))⟩
    unfold tkK
    rw [if_pos g1]
    split <;> decide
/-- where the reference goes on to scan when m tokens are there -/
def atT (t : Nat → Int) (n : Nat) : Nat → Nat
  | 0 => 0
  | m + 1 => if stT t n m < n then tkE t n (stT t n m) else stT t n m
theorem atT_s (t : Nat → Int) (n m : Nat) : atT t n (m + 1) = if stT t n m < n then tkE t n (stT t n m) else stT t n m := rfl
/-- what is kept of token j -/
def MTk (t : Nat → Int) (n : Nat) (vs : List (List Int)) (j : Nat) (s : aZ) (l : aZL) : Prop := ftT t n j = 0 ∧ zz s 71 j = kM (kdT t n j) ∧ zz s 72 j = stT t n j ∧ (kdT t n j = 3 → zz s 73 j = dgV t (n - stT t n j) (stT t n j) 0) ∧ (kdT t n j = 2 → zz s 73 j = ixn (nsT t n vs j) (nmT t n (stT t n j))) ∧ (stT t n j < n → z31 (t (stT t n j)) ≠ 0 → LN l 74 j (seg t (stT t n j) (tkE t n (stT t n j) - stT t n j)))
/-- m tokens are there, the place is at i, no fault -/
def MC (t : Nat → Int) (n : Nat) (vs : List (List Int)) (m i : Nat) (s : aZ) (l : aZL) : Prop := MT t n s ∧ zz s 56 22 = 0 ∧ zz s 56 23 = -1 ∧ zz s 56 31 = i ∧ zz s 56 26 = m ∧ zz s 56 25 = atT t n m ∧ MV (nsT t n vs m) s l ∧ (∀ j, j < m → MTk t n vs j s l) ∧ (∀ j, j + 1 < m → stT t n j < n)
/-- behind a fault -/
def MF (t : Nat → Int) (n : Nat) (f p : Int) (vs : List (List Int)) (s : aZ) (l : aZL) : Prop := MT t n s ∧ 0 < f ∧ zz s 56 22 = f ∧ zz s 56 23 = p ∧ 0 ≤ zz s 56 31 ∧ zz s 56 31 < 6002 ∧ MV vs s l
/-- what scanning may touch of the reference -/
def FrM (s s2 : aZ) (l l2 : aZL) : Prop := (∀ k, k ≠ 56 → k ≠ 71 → k ≠ 72 → k ≠ 73 → s2 k = s k) ∧ (∀ j, j ∉ [5, 22, 23, 25, 26] → zz s2 56 j = zz s 56 j) ∧ ∀ k, k ≠ 74 → k ≠ 63 → l2 k = l k
theorem FrM.rf (s : aZ) (l : aZL) : FrM s s l l := ⟨fun _ _ _ _ _ => rfl, fun _ _ => rfl, fun _ _ _ => rfl⟩
theorem FrM.tr {s1 s2 s3 : aZ} {l1 l2 l3 : aZL} (a : FrM s1 s2 l1 l2) (b : FrM s2 s3 l2 l3) : FrM s1 s3 l1 l3 := ⟨fun k h1 h2 h3 h4 => (b.1 k h1 h2 h3 h4).trans (a.1 k h1 h2 h3 h4), fun j hj => (b.2.1 j hj).trans (a.2.1 j hj), fun k h1 h2 => (b.2.2 k h1 h2).trans (a.2.2 k h1 h2)⟩
theorem MT.fr {t : Nat → Int} {n : Nat} {s s2 : aZ} {l l2 : aZL} (h : MT t n s) (f : FrM s s2 l l2) : MT t n s2 := ⟨(f.2.1 24 (by decide)).trans h.1, h.2.1, fun j hj => ⟨(zz_of (f.1 57 (by decide) (by decide) (by decide) (by decide)) j).trans (h.2.2 j hj).1, (h.2.2 j hj).2⟩⟩
/-- the room of the reference's table -/
def MCap (t : Nat → Int) (n : Nat) (vs : List (List Int)) : Prop := ∀ j, (nsT t n vs j).length < 17000
theorem m_scan {d : Nat} {B : aH} (hB : a_Can B) (hd : 3 ≤ d) {t : Nat → Int} {n : Nat} {vs : List (List Int)} (hcap : MCap t n vs) {s : aZ} {l : aZL} (m i : Nat) (hm : m ≤ 6000) (hC : MC t n vs m i s l) (hlast : ∀ j, j + 1 = m → stT t n j < n) (hat : atT t n m ≤ n) : a_W d 149 0 [.ref 56, .retAddr 0] [] (mkH B s l) (fun q => ∃ s2 l2, q = (.inl none, mkH B s2 l2) ∧ FrM s s2 l l2 ∧ (ftT t n m = 0 → MC t n vs (m + 1) i s2 l2) ∧ (ftT t n m ≠ 0 → zz s2 56 22 = ftT t n m ∧ zz s2 56 23 = stT t n m ∧ MV (nsT t n vs (m + 1)) s2 l2)) := by
  obtain ⟨c1, c2, c3, c4, c5, c6, c7, c8, c9⟩ := hC
  have h8 := c1.2.1
  have hst : stT t n m = nb t (n - atT t n m) (atT t n m) false := by
    cases m with
    | zero => rfl
    | succ j =>
      have := hlast j rfl
      show nb t (n - tkE t n (stT t n j)) (tkE t n (stT t n j)) false = _
      rw [atT_s, if_pos this]
  have hb := nb_ge t (n - atT t n m) (atT t n m) false
  have hle : stT t n m ≤ n := by rw [hst]; omega
  refine w149_0 hB (by omega) s l ?_
  rw [c6]
  refine a_W.imp (m_blanks hB (by omega) l c1 (atT t n m) hat) ?_
  rintro _ rfl
  rw [← hst]
  have c24 := c1.1
  have em : (zz s 56 26).toNat = m := by omega
  refine ⟨_, s, l, rfl, ⟨by omega, by omega⟩, ⟨by omega, by omega⟩, fun hne => ?_, fun heq => ?_⟩
  · have hsn : stT t n m < n := by omega
    rw [em]
    have f1 : ∀ j, j ≠ 25 → zz (zu (zu s 56 25 (stT t n m : Nat)) 72 m (stT t n m : Nat)) 56 j = zz s 56 j := fun j hj => by rw [zz_ne _ _ _ _ _ _ (by omega), zz_ne _ _ _ _ _ _ (fun q => hj q.2)]
    have f25 : zz (zu (zu s 56 25 (stT t n m : Nat)) 72 m (stT t n m : Nat)) 56 25 = (stT t n m : Nat) := by rw [zz_ne _ _ _ _ _ _ (by omega), zz_same _ _ _ ⟨by omega, by omega⟩]
    have fr1 : FrM s (zu (zu s 56 25 (stT t n m : Nat)) 72 m (stT t n m : Nat)) l l := ⟨fun k q1 q2 q3 q4 => by rw [zu_ne _ _ _ _ _ q3, zu_ne _ _ _ _ _ q1], fun j hj => f1 j (fun q => hj (by rw [q]; decide)), fun _ _ _ => rfl⟩
    refine ⟨fun h6 => ?_, fun h6 => ⟨fun _ => ?_, fun h => absurd h (by omega)⟩⟩
    · have hm6 : m < 6000 := by omega
      have eft : ftT t n m = tkF t n (stT t n m) := by unfold ftT; rw [if_pos hsn, if_neg (by omega)]
      have ekd : kdT t n m = tkK t n (stT t n m) := by unfold kdT; rw [if_pos hsn]
      have ens : nsT t n vs (m + 1) = tkNs t n (stT t n m) (nsT t n vs m) := by
        show nsS t n m (nsT t n vs m) = _
        unfold nsS
        rw [if_pos ⟨hsn, hm6⟩]
      refine a_W.imp (m_scanAny hB hd l (c1.fr fr1) (nsT t n vs m) (c7.fr (f1 5 (by decide)) rfl) (hcap m) (stT t n m) m hsn f25 ((f1 26 (by decide)).trans c5) (by omega) ((f1 22 (by decide)).trans c2)) ?_
      rintro _ ⟨s2, l2, rfl, g1, g2, g3, g4, g5, g6, g7⟩
      have fr2 : FrM s (zu s2 56 26 ((m : Int) + 1)) l l2 := by
        refine ⟨fun k q1 q2 q3 q4 => by rw [zu_ne _ _ _ _ _ q1, g1 k q1 q2 q4, fr1.1 k q1 q2 q3 q4], fun j hj => ?_, fun k q1 q2 => g4.2 k q1 q2⟩
        rw [zz_ne _ _ _ _ _ _ (fun q => hj (by rw [q.2]; decide)), g2 j (fun q => hj ?_)]
        · exact fr1.2.1 j hj
        · simp only [List.mem_cons, List.not_mem_nil, or_false] at q ⊢
          omega
      have hV2 : MV (nsT t n vs (m + 1)) (zu s2 56 26 ((m : Int) + 1)) l2 := by
        rw [ens]
        exact g5.fr (zz_ne _ _ _ _ _ _ (by decide)) rfl
      refine ⟨_, l2, rfl, fr2, fun h0 => ?_, fun h0 => ?_⟩
      · rw [eft] at h0
        obtain ⟨k1, k2, k3, k4, k5, k6, k7⟩ := g6 h0
        refine ⟨c1.fr fr2, ?_, ?_, (fr2.2.1 31 (by decide)).trans c4, ?_, ?_, hV2, fun j hj => ?_, fun j hj => ?_⟩
        · rw [zz_ne _ _ _ _ _ _ (by decide)]; exact k3
        · rw [zz_ne _ _ _ _ _ _ (by decide), k4, f1 23 (by decide)]; exact c3
        · rw [zz_same _ _ _ ⟨by omega, by omega⟩]; rfl
        · rw [zz_ne _ _ _ _ _ _ (by decide), k2]
          rw [atT_s, if_pos hsn]
        · by_cases e : j = m
          · subst e
            refine ⟨eft.trans h0, ?_, ?_, fun q => ?_, fun q => ?_, fun _ q => k7 q⟩
            · rw [zz_ne _ _ _ _ _ _ (by omega), k1, ekd]
            · rw [zz_ne _ _ _ _ _ _ (by omega), zz_of (g1 72 (by decide) (by decide) (by decide)), zz_same _ _ _ ⟨by omega, by omega⟩]
            · rw [zz_ne _ _ _ _ _ _ (by omega)]; exact k5 (ekd ▸ q)
            · rw [zz_ne _ _ _ _ _ _ (by omega)]; exact k6 (ekd ▸ q)
          · obtain ⟨t1, t2, t3, t4, t5, t6⟩ := c8 j (by omega)
            have e71 : zz (zu s2 56 26 ((m : Int) + 1)) 71 j = zz s 71 j := by rw [zz_ne _ _ _ _ _ _ (by omega), (g3 j e).1, zz_ne _ _ _ _ _ _ (by omega), zz_ne _ _ _ _ _ _ (by omega)]
            have e73 : zz (zu s2 56 26 ((m : Int) + 1)) 73 j = zz s 73 j := by rw [zz_ne _ _ _ _ _ _ (by omega), (g3 j e).2, zz_ne _ _ _ _ _ _ (by omega), zz_ne _ _ _ _ _ _ (by omega)]
            have e72 : zz (zu s2 56 26 ((m : Int) + 1)) 72 j = zz s 72 j := by rw [zz_ne _ _ _ _ _ _ (by omega), zz_of (g1 72 (by decide) (by decide) (by decide)), zz_ne _ _ _ _ _ _ (by omega), zz_ne _ _ _ _ _ _ (by omega)]
            refine ⟨t1, e71.trans t2, e72.trans t3, fun q => e73.trans (t4 q), fun q => e73.trans (t5 q), fun q1 q2 q hq => ?_⟩
            rw [g4.1 _ (by omega)]
            exact t6 q1 q2 q hq
        · by_cases e : j + 1 = m
          · exact hlast j e
          · exact c9 j (by omega)
      · rw [eft] at h0 ⊢
        obtain ⟨k1, k2⟩ := g7 h0
        refine ⟨?_, ?_, hV2⟩
        · rw [zz_ne _ _ _ _ _ _ (by decide)]; exact k1
        · rw [zz_ne _ _ _ _ _ _ (by decide)]; exact k2
    · have hm6 : m = 6000 := by omega
      have eft : ftT t n m = 8 := by unfold ftT; rw [if_pos hsn, if_pos (by omega)]
      have ens : nsT t n vs (m + 1) = nsT t n vs m := by
        show nsS t n m (nsT t n vs m) = _
        unfold nsS
        rw [if_neg (by omega)]
      have k22 : zz (zu (zu (zu (zu s 56 25 (stT t n m : Nat)) 72 m (stT t n m : Nat)) 56 22 8) 56 23 (stT t n m : Nat)) 56 22 = 8 := by rw [zz_ne _ _ _ _ _ _ (by decide), zz_same _ _ _ (by decide)]
      refine w149_77 hB (by omega) _ l ⟨fun h => absurd h (by omega), fun _ => ⟨_, l, rfl, ⟨fun k q1 q2 q3 q4 => ?_, fun j hj => ?_, fun _ _ _ => rfl⟩, fun h => absurd h (by rw [eft]; decide), fun _ => ⟨?_, ?_, ?_⟩⟩⟩
      · rw [zu_ne _ _ _ _ _ q1, zu_ne _ _ _ _ _ q1]; exact fr1.1 k q1 q2 q3 q4
      · rw [zz_ne _ _ _ _ _ _ (fun q => hj (by rw [q.2]; decide)), zz_ne _ _ _ _ _ _ (fun q => hj (by rw [q.2]; decide))]; exact fr1.2.1 j hj
      · rw [eft]; exact k22
      · exact zz_same _ _ _ ⟨by omega, by omega⟩
      · rw [ens]
        exact c7.fr (by rw [zz_ne _ _ _ _ _ _ (by decide), zz_ne _ _ _ _ _ _ (by decide), f1 5 (by decide)]) rfl
  · have hsn : stT t n m = n := by omega
    rw [em, c5]
    have eft : ftT t n m = 0 := by unfold ftT; rw [if_neg (by omega)]
    have ekd : kdT t n m = 0 := by unfold kdT; rw [if_neg (by omega)]
    have ens : nsT t n vs (m + 1) = nsT t n vs m := by
      show nsS t n m (nsT t n vs m) = _
      unfold nsS
      rw [if_neg (by omega)]
    have f1 : ∀ j, j ≠ 25 → j ≠ 26 → zz (zu (zu (zu (zu s 56 25 (stT t n m : Nat)) 72 m (stT t n m : Nat)) 71 m 0) 56 26 ((m : Int) + 1)) 56 j = zz s 56 j := fun j hj hj2 => by rw [zz_ne _ _ _ _ _ _ (fun q => hj2 q.2), zz_ne _ _ _ _ _ _ (by omega), zz_ne _ _ _ _ _ _ (by omega), zz_ne _ _ _ _ _ _ (fun q => hj q.2)]
    have fr2 : FrM s (zu (zu (zu (zu s 56 25 (stT t n m : Nat)) 72 m (stT t n m : Nat)) 71 m 0) 56 26 ((m : Int) + 1)) l l := ⟨fun k q1 q2 q3 q4 => by rw [zu_ne _ _ _ _ _ q1, zu_ne _ _ _ _ _ q2, zu_ne _ _ _ _ _ q3, zu_ne _ _ _ _ _ q1], fun j hj => f1 j (fun q => hj (by rw [q]; decide)) (fun q => hj (by rw [q]; decide)), fun _ _ _ => rfl⟩
    refine ⟨_, l, rfl, fr2, fun _ => ⟨c1.fr fr2, (f1 22 (by decide) (by decide)).trans c2, (f1 23 (by decide) (by decide)).trans c3, (f1 31 (by decide) (by decide)).trans c4, ?_, ?_, ?_, fun j hj => ?_, fun j hj => ?_⟩, fun h => absurd eft h⟩
    · rw [zz_same _ _ _ ⟨by omega, by omega⟩]; rfl
    · rw [zz_ne _ _ _ _ _ _ (by decide), zz_ne _ _ _ _ _ _ (by omega), zz_ne _ _ _ _ _ _ (by omega), zz_same _ _ _ ⟨by omega, by omega⟩]
      rw [atT_s, if_neg (by omega)]
    · rw [ens]; exact c7.fr (f1 5 (by decide) (by decide)) rfl
    · by_cases e : j = m
      · subst e
        refine ⟨eft, ?_, ?_, fun q => absurd q (by rw [ekd]; decide), fun q => absurd q (by rw [ekd]; decide), fun q => absurd q (by omega)⟩
        · rw [zz_ne _ _ _ _ _ _ (by omega), zz_same _ _ _ (by decide), ekd]; rfl
        · rw [zz_ne _ _ _ _ _ _ (by omega), zz_ne _ _ _ _ _ _ (by omega), zz_same _ _ _ ⟨by omega, by omega⟩]
      · obtain ⟨t1, t2, t3, t4, t5, t6⟩ := c8 j (by omega)
        refine ⟨t1, ?_, ?_, fun q => ?_, fun q => ?_, t6⟩
        · rw [zz_ne _ _ _ _ _ _ (by omega), zz_ne _ _ _ _ _ _ (by omega), zz_ne _ _ _ _ _ _ (by omega), zz_ne _ _ _ _ _ _ (by omega)]; exact t2
        · rw [zz_ne _ _ _ _ _ _ (by omega), zz_ne _ _ _ _ _ _ (by omega), zz_ne _ _ _ _ _ _ (by omega), zz_ne _ _ _ _ _ _ (by omega)]; exact t3
        · rw [zz_ne _ _ _ _ _ _ (by omega), zz_ne _ _ _ _ _ _ (by omega), zz_ne _ _ _ _ _ _ (by omega), zz_ne _ _ _ _ _ _ (by omega)]; exact t4 q
        · rw [zz_ne _ _ _ _ _ _ (by omega), zz_ne _ _ _ _ _ _ (by omega), zz_ne _ _ _ _ _ _ (by omega), zz_ne _ _ _ _ _ _ (by omega)]; exact t5 q
    · by_cases e : j + 1 = m
      · exact hlast j e
      · exact c9 j (by omega)
