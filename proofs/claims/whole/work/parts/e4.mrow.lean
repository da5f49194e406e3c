/-! THE REFERENCE WRITES A TYPE -/
theorem wrT_sn : ∀ (T : aT) (sn : List Nat), (wrT T sn).2.length ≤ sn.length + szT T := by
  intro T
  induction T with
  | leaf q =>
    intro sn
    show (if q.1 = 2 then (if ixV sn q.2 < sn.length then ([-1 - (ixV sn q.2 : Int)], sn) else ([-1 - (sn.length : Int)], sn ++ [q.2])) else ([], sn) : List Int × List Nat).2.length ≤ sn.length + (if q.1 = 2 then 1 else 0)
    by_cases h : q.1 = 2
    · rw [if_pos h, if_pos h]
      split
      · exact Nat.le_succ _
      · show (sn ++ [q.2]).length ≤ _
        rw [List.length_append]
        exact Nat.le_refl _
    · rw [if_neg h, if_neg h]
      exact Nat.le_refl _
  | branch e x y ihx ihy =>
    intro sn
    show (wrT y (wrT x sn).2).2.length ≤ sn.length + (1 + (szT x + szT y))
    have h1 := ihx sn
    have h2 := ihy (wrT x sn).2
    omega
section
variable {B : aH} {ar : Int → Nat} {P : Nat} {rt u h : Nat → Nat} {s0 : aZ}
def tM (s0 : aZ) (rt h : Nat → Nat) (x : Int) : aT := rsT unM (vwM s0) rt (h (rt x.toNat) + 1) x
def tK (s0 : aZ) (rt h : Nat → Nat) (k : Nat) : aT := tM s0 rt h (k : Int)
theorem tM_n {x : Int} (hx : x < 0) : tM s0 rt h x = cNo := rsT_n _ _ _ _ _ hx
theorem tM_u {k : Nat} (hu : zz s0 64 (rt k) = unM) : tM s0 rt h (k : Int) = vrT (rt k) := by
  unfold tM
  rw [rsT_s, if_neg (by omega), natc, if_pos (show (vwM s0).2.1 (rt k) = unM from hu)]
theorem tM_b (hE : PEm ar P s0 rt u) (hA : AcP unM P (vwM s0) rt h) {k : Nat} (hk : k < P) (hu : zz s0 64 (rt k) ≠ unM) : tM s0 rt h (k : Int) = .branch (enc (zz s0 64 (rt k))) (tM s0 rt h (zz s0 65 (rt k))) (tM s0 rt h (zz s0 66 (rt k))) := by
  obtain ⟨q1, q2⟩ := rt_rt hE.2.1 hk
  have hr : (vwM s0).1 (rt k) = rt k := (hE.2.1 k hk).2.2.1
  obtain ⟨l1, l2⟩ := hA (rt k) q1 hr hu
  have hPr := hE.1.2 _ q1
  have e : ∀ x : Int, -1 ≤ x → x < P → (0 ≤ x → h (rt x.toNat) < h (rt k)) → rsT unM (vwM s0) rt (h (rt k)) x = tM s0 rt h x := fun x a b c => rsT_st hE.2.1 hE.2.2.1.1 hA _ _ x a b (fun q => ⟨c q, Nat.lt_succ_self _⟩)
  unfold tM
  rw [rsT_s, if_neg (by omega), natc, if_neg (show ¬ (vwM s0).2.1 (rt k) = unM from hu)]
  rw [show (vwM s0).2.2.1 (rt k) = zz s0 65 (rt k) from rfl, show (vwM s0).2.2.2 (rt k) = zz s0 66 (rt k) from rfl, e _ hPr.1.1 hPr.1.2 l1, e _ hPr.2.1.1 hPr.2.1.2 l2]
  rfl
theorem tM_sz (hE : PEm ar P s0 rt u) (hA : AcP unM P (vwM s0) rt h) {k : Nat} (hk : k < P) : 1 ≤ szT (tM s0 rt h (k : Int)) := by
  by_cases hu : zz s0 64 (rt k) = unM
  · rw [tM_u hu]; exact Nat.le_refl _
  · rw [tM_b hE hA hk hu]
    show 1 ≤ 1 + (_ + _)
    omega
/-- the reference while it writes types: those unknown that have a number -/
def mWr (P : Nat) (s0 s : aZ) (sn : List Nat) : Prop := eqP s0 s ∧ zz s 56 16 = zz s0 56 16 ∧ zz s 56 69 = (sn.length : Nat) ∧ ∀ k, k < P → zz s 104 k = if ixV sn k < sn.length then (ixV sn k : Int) else -1
def mSt (s : aZ) (W : List Nat) : Prop := ∀ i, i < W.length → zz s 103 (W.length - 1 - i) = (W.getD i 0 : Nat)
theorem mWr.wr {s : aZ} {sn : List Nat} (g : mWr P s0 s sn) (c j : Nat) (x : Int) (hc : c = 68 ∨ c = 69 ∨ c = 70 ∨ c = 103) : mWr P s0 (zu s c j x) sn := by
  obtain ⟨h1, h2, h3, h4⟩ := g
  exact ⟨fun k a b i => by rw [zz_ne _ _ _ _ _ _ (by omega)]; exact h1 k a b i, by rw [zz_ne _ _ _ _ _ _ (by omega)]; exact h2, by rw [zz_ne _ _ _ _ _ _ (by omega)]; exact h3, fun k hk => by rw [zz_ne _ _ _ _ _ _ (by omega)]; exact h4 k hk⟩
theorem mWr.new {s : aZ} {sn : List Nat} (g : mWr P s0 s sn) {r : Nat} (hn : ¬ ixV sn r < sn.length) (hl : sn.length < 30000) : mWr P s0 (zu (zu s 104 r (sn.length : Int)) 56 69 ((sn.length : Int) + 1)) (sn ++ [r]) := by
  obtain ⟨h1, h2, h3, h4⟩ := g
  have hle := ixV_le sn
  have hlen : (sn ++ [r]).length = sn.length + 1 := by rw [List.length_append]; rfl
  refine ⟨fun k a b i => by rw [zz_ne _ _ _ _ _ _ (by omega), zz_ne _ _ _ _ _ _ (by omega)]; exact h1 k a b i, by rw [zz_ne _ _ _ _ _ _ (by omega), zz_ne _ _ _ _ _ _ (by omega)]; exact h2, by rw [hlen, zz_same _ _ _ ⟨by omega, by omega⟩]; rfl, fun k hk => ?_⟩
  rw [zz_ne _ _ _ _ _ _ (by omega), hlen, ixV_snoc]
  by_cases e : k = r
  · subst e
    rw [zz_same _ _ _ ⟨by omega, by omega⟩, if_neg hn, if_pos rfl, if_pos (by omega)]
  · rw [zz_ne _ _ _ _ _ _ (by omega), h4 k hk]
    by_cases q : ixV sn k < sn.length
    · rw [if_pos q, if_pos q, if_pos (by omega)]
    · rw [if_neg q, if_neg q, if_neg (show ¬ r = k from fun c => e c.symm), if_neg (by omega)]
def mrP (P : Nat) (s0 : aZ) (rt h : Nat → Nat) (W : List Nat) (at' : Nat) (sn : List Nat) (B : aH) (s : aZ) (l : aZL) (q : aR) : Prop := ∃ s2, q = (.inl (some (iv ((at' + szN (W.map (tK s0 rt h)) : Nat) : Int))), mkH B s2 l) ∧ mWr P s0 s2 (wrN (W.map (tK s0 rt h)) sn).2 ∧ (∀ j, j < szN (W.map (tK s0 rt h)) → zz s2 70 (at' + j) = (wrN (W.map (tK s0 rt h)) sn).1.getD j 0) ∧ (∀ j, j < at' → zz s2 70 j = zz s 70 j) ∧ (∀ k, k ≠ 56 → k ≠ 70 → k ≠ 103 → k ≠ 104 → s2 k = s k) ∧ ∀ j, j ≠ 69 → zz s2 56 j = zz s 56 j
theorem len_szM (hE : PEm ar P s0 rt u) (hA : AcP unM P (vwM s0) rt h) : ∀ W : List Nat, (∀ k ∈ W, k < P) → W.length ≤ szN (W.map (tK s0 rt h)) := by
  intro W
  induction W with
  | nil => intro _; exact Nat.le_refl _
  | cons k W ih =>
    intro g
    have h1 : 1 ≤ szT (tK s0 rt h k) := tM_sz hE hA (g k List.mem_cons_self)
    have h2 := ih (fun q hq => g q (List.mem_cons_of_mem _ hq))
    show W.length + 1 ≤ szT (tK s0 rt h k) + szN (W.map (tK s0 rt h))
    omega
theorem m_rloop (hB : a_Can B) (hE : PEm ar P s0 rt u) (hA : AcP unM P (vwM s0) rt h) (hP : P ≤ 29000) {d : Nat} (hd : 1 ≤ d) (l : aZL) (x1 x2 : Int) : ∀ (m : Nat) (W : List Nat) (at' : Nat) (sn : List Nat) (s : aZ) (u5 : Value), szN (W.map (tK s0 rt h)) ≤ m → at' + szN (W.map (tK s0 rt h)) ≤ 20800 → szN (W.map (tK s0 rt h)) ≤ 16000 → (∀ k ∈ W, k < P) → sn.length ≤ at' → mWr P s0 s sn → mSt s W → a_W d 201 12 [.ref 56, iv x1, iv x2, iv (at' : Int), iv (W.length : Int), u5] [] (mkH B s l) (mrP P s0 rt h W at' sn B s l) := by
  intro m
  have nil : ∀ (at' : Nat) (sn : List Nat) (s : aZ) (u5 : Value), mWr P s0 s sn → a_W d 201 12 [.ref 56, iv x1, iv x2, iv (at' : Int), iv (([] : List Nat).length : Int), u5] [] (mkH B s l) (mrP P s0 rt h [] at' sn B s l) := fun at' sn s u5 hw => w201_12 hB (by omega) _ _ _ _ _ s l ⟨by decide, fun _ => ⟨s, rfl, hw, fun j hj => absurd hj (Nat.not_lt_zero _), fun _ _ => rfl, fun _ _ _ _ _ => rfl, fun _ _ => rfl⟩, fun c => absurd c (by decide)⟩
  induction m with
  | zero =>
    intro W at' sn s u5 hm h2 h6 hW hsn hw hk
    have hl := len_szM hE hA W hW
    have e : W = [] := List.eq_nil_of_length_eq_zero (by omega)
    subst e
    exact nil at' sn s u5 hw
  | succ m ih =>
    intro W at' sn s u5 hm h2 h6 hW hsn hw hk
    have hl := len_szM hE hA W hW
    cases W with
    | nil => exact nil at' sn s u5 hw
    | cons k W =>
      have hlen : (k :: W).length = W.length + 1 := rfl
      have hkP := hW k List.mem_cons_self
      have hW' : ∀ q ∈ W, q < P := fun q hq => hW q (List.mem_cons_of_mem _ hq)
      have esz : szN ((k :: W).map (tK s0 rt h)) = szT (tK s0 rt h k) + szN (W.map (tK s0 rt h)) := rfl
      have s1 : 1 ≤ szT (tK s0 rt h k) := tM_sz hE hA hkP
      rw [hlen] at hl
      have htop : zz s 103 W.length = (k : Nat) := hk 0 (by rw [hlen]; omega)
      have hkW : ∀ i, i < W.length → zz s 103 (W.length - 1 - i) = (W.getD i 0 : Nat) := fun i hi => by
        have := hk (i + 1) (by rw [hlen]; omega)
        rw [hlen, show W.length + 1 - 1 - (i + 1) = W.length - 1 - i by omega] at this
        exact this
      have em : (((k :: W).length : Nat) : Int) + (-1) = (W.length : Int) := by rw [hlen]; omega
      have hU0 := hE.2.1
      have hEs := hE.vw hw.1 hw.2.1
      refine w201_12 hB (by omega) _ _ _ _ _ s l ⟨⟨by rw [hlen]; omega, by rw [hlen]; omega⟩, fun c => absurd c (by rw [hlen]; omega), fun _ => ?_⟩
      rw [em, natc, htop]
      refine ⟨⟨by omega, by omega⟩, a_W.imp (m_last hB l (by omega) s hEs.1 hEs.2.1 k hkP) ?_⟩
      rintro _ rfl
      obtain ⟨q1, q2⟩ := rt_rt hU0 hkP
      have hPr := hE.1.2 _ q1
      refine ⟨_, s, l, rfl, ⟨by omega, by omega⟩, ?_⟩
      rw [natc]
      have e64 : zz s 64 (rt k) = zz s0 64 (rt k) := hw.1 64 (by decide) (by decide) _
      have e104 := hw.2.2.2 _ q1
      rw [e64]
      -- what follows
      have fin : ∀ (W2 sn2 : List Nat) (s8 : aZ) (c0 : Int), zz s8 70 at' = c0 → (∀ j, j ≠ at' → zz s8 70 j = zz s 70 j) → (∀ k, k ≠ 56 → k ≠ 70 → k ≠ 103 → k ≠ 104 → s8 k = s k) → (∀ j, j ≠ 69 → zz s8 56 j = zz s 56 j) → mWr P s0 s8 sn2 → mSt s8 W2 → (∀ q ∈ W2, q < P) → sn2.length ≤ at' + 1 → wrN ((k :: W).map (tK s0 rt h)) sn = (c0 :: (wrN (W2.map (tK s0 rt h)) sn2).1, (wrN (W2.map (tK s0 rt h)) sn2).2) → szN ((k :: W).map (tK s0 rt h)) = 1 + szN (W2.map (tK s0 rt h)) → a_W d 201 171 [.ref 56, iv x1, iv x2, iv ((at' : Int) + 1), iv (W2.length : Int), iv ((rt k : Nat) : Int)] [] (mkH B s8 l) (mrP P s0 rt h (k :: W) at' sn B s l) := by
        intro W2 sn2 s8 c0 g1 g2 g3 g3' g4 g5 g6 g9 g7 g8
        rw [show (at' : Int) + 1 = ((at' + 1 : Nat) : Int) by omega]
        refine w201_171 hB _ _ _ _ _ s8 l (a_W.imp (ih W2 (at' + 1) sn2 s8 _ (by omega) (by omega) (by omega) g6 g9 g4 g5) ?_)
        rintro _ ⟨s9, rfl, p1, p2, p3, p4, p5⟩
        refine ⟨s9, ?_, by rw [g7]; exact p1, fun j hj => ?_, fun j hj => (p3 j (by omega)).trans (g2 j (by omega)), fun k a b c d => (p4 k a b c d).trans (g3 k a b c d), fun j hj => (p5 j hj).trans (g3' j hj)⟩
        · rw [g8, show at' + 1 + szN (W2.map (tK s0 rt h)) = at' + (1 + szN (W2.map (tK s0 rt h))) by omega]
        · rw [g7]
          cases j with
          | zero => exact (p3 at' (by omega)).trans g1
          | succ j =>
            rw [show at' + (j + 1) = at' + 1 + j by omega]
            exact p2 j (by omega)
      by_cases hu : zz s0 64 (rt k) = unM
      · obtain ⟨u1, u2⟩ := (hE.2.2.1.2 _ q1).2 hu
        have u1 : zz s0 65 (rt k) < 0 := u1
        have u2 : zz s0 66 (rt k) < 0 := u2
        have eT : tK s0 rt h k = vrT (rt k) := tM_u hu
        have esz1 : szN ((k :: W).map (tK s0 rt h)) = 1 + szN (W.map (tK s0 rt h)) := by
          rw [esz, eT]
          rfl
        have ewr : wrN ((k :: W).map (tK s0 rt h)) sn = wrN (vrT (rt k) :: W.map (tK s0 rt h)) sn := by
          rw [List.map_cons, eT]
        have at76 : ∀ (s8 : aZ) (sn2 : List Nat) (i : Nat), mWr P s0 s8 sn2 → i ≤ 30000 → zz s8 104 (rt k) = (i : Nat) → (∀ j, zz s8 70 j = zz s 70 j) → (∀ j, zz s8 103 j = zz s 103 j) → (∀ k, k ≠ 56 → k ≠ 70 → k ≠ 103 → k ≠ 104 → s8 k = s k) → (∀ j, j ≠ 69 → zz s8 56 j = zz s 56 j) → sn2.length ≤ at' + 1 → wrN (vrT (rt k) :: W.map (tK s0 rt h)) sn = ((-1 - (i : Int)) :: (wrN (W.map (tK s0 rt h)) sn2).1, (wrN (W.map (tK s0 rt h)) sn2).2) → a_W d 201 76 [.ref 56, iv x1, iv x2, iv (at' : Int), iv (W.length : Int), iv ((rt k : Nat) : Int)] [] (mkH B s8 l) (mrP P s0 rt h (k :: W) at' sn B s l) := by
          intro s8 sn2 i g1 gi g2 g3 g4 g5 g6 g7 g8
          have f64 : zz s8 64 (rt k) = -1 := (g1.1 64 (by decide) (by decide) _).trans hu
          have f65 : zz s8 65 (rt k) = -1 := (g1.1 65 (by decide) (by decide) _).trans (by omega)
          have f66 : zz s8 66 (rt k) = -1 := (g1.1 66 (by decide) (by decide) _).trans (by omega)
          refine w201_76 hB _ _ _ _ _ s8 l ⟨⟨by omega, by omega⟩, ?_⟩
          rw [natc, natc, f64, f66]
          refine ⟨fun c => absurd rfl c, fun _ => ⟨⟨by omega, by omega⟩, fun _ => ?_, fun c => absurd rfl c⟩⟩
          rw [g2]
          refine w201_143 hB _ _ _ _ _ _ l ⟨⟨by omega, by omega⟩, ?_⟩
          rw [natc, zz_ne _ _ _ _ _ _ (by omega), f65]
          refine ⟨fun _ => ?_, fun c => absurd rfl c⟩
          refine fin W sn2 _ (-1 - (i : Int)) (zz_same _ _ _ ⟨by omega, by omega⟩) (fun j hj => by rw [zz_ne _ _ _ _ _ _ (by omega), g3]) (fun q a b c e => by rw [zu_ne _ _ _ _ _ b]; exact g5 q a b c e) (fun j hj => by rw [zz_ne _ _ _ _ _ _ (by omega)]; exact g6 j hj) (g1.wr 70 _ _ (by omega)) (fun i hi => ?_) hW' g7 (by rw [ewr]; exact g8) esz1
          rw [zz_ne _ _ _ _ _ _ (by omega), g4]
          exact hkW i hi
        refine ⟨fun c => absurd hu c, fun _ => ⟨fun c => ?_, fun c => ?_⟩⟩
        · have hin : ixV sn (rt k) < sn.length := Decidable.byContradiction (fun q => c (by rw [e104, if_neg q]))
          rw [if_pos hin] at e104
          refine at76 s sn (ixV sn (rt k)) hw (by omega) e104 (fun _ => rfl) (fun _ => rfl) (fun _ _ _ _ _ => rfl) (fun _ _ => rfl) (by omega) ?_
          rw [wrN_v, if_pos hin]
        · have hin : ¬ ixV sn (rt k) < sn.length := fun q => by rw [e104, if_pos q] at c; omega
          rw [hw.2.2.1]
          refine at76 _ (sn ++ [rt k]) sn.length (hw.new hin (by omega)) (by omega) ?_ (fun j => by rw [zz_ne _ _ _ _ _ _ (by omega), zz_ne _ _ _ _ _ _ (by omega)]) (fun j => by rw [zz_ne _ _ _ _ _ _ (by omega), zz_ne _ _ _ _ _ _ (by omega)]) (fun q a b c e => by rw [zu_ne _ _ _ _ _ a, zu_ne _ _ _ _ _ e]) (fun j hj => by rw [zz_ne _ _ _ _ _ _ (by omega), zz_ne _ _ _ _ _ _ (by omega)]) (by rw [List.length_append]; show sn.length + 1 ≤ _; omega) ?_
          · rw [zz_ne _ _ _ _ _ _ (by omega)]; exact zz_same _ _ _ ⟨by omega, by omega⟩
          · rw [wrN_v, if_neg hin]
      · have eT : tK s0 rt h k = .branch (enc (zz s0 64 (rt k))) (tM s0 rt h (zz s0 65 (rt k))) (tM s0 rt h (zz s0 66 (rt k))) := tM_b hE hA hkP hu
        have hcd : dec (enc (zz s0 64 (rt k))) = zz s0 64 (rt k) := dec_enc (hE.2.2.1.1 _ q1).2.2
        have esz1 : szN ((k :: W).map (tK s0 rt h)) = 1 + szN (tM s0 rt h (zz s0 65 (rt k)) :: tM s0 rt h (zz s0 66 (rt k)) :: W.map (tK s0 rt h)) := by
          rw [esz, eT]
          show 1 + (_ + _) + _ = 1 + (_ + (_ + _))
          omega
        have ewr : wrN ((k :: W).map (tK s0 rt h)) sn = (zz s0 64 (rt k) :: (wrN (tM s0 rt h (zz s0 65 (rt k)) :: tM s0 rt h (zz s0 66 (rt k)) :: W.map (tK s0 rt h)) sn).1, (wrN (tM s0 rt h (zz s0 65 (rt k)) :: tM s0 rt h (zz s0 66 (rt k)) :: W.map (tK s0 rt h)) sn).2) := by
          rw [List.map_cons, eT, wrN_b, hcd]
        have ir := inR_zz s0 64 (rt k)
        have f65 : zz s 65 (rt k) = zz s0 65 (rt k) := hw.1 65 (by decide) (by decide) _
        have f66 : zz s 66 (rt k) = zz s0 66 (rt k) := hw.1 66 (by decide) (by decide) _
        refine ⟨fun _ => ?_, fun c => absurd c hu⟩
        refine w201_76 hB _ _ _ _ _ s l ⟨⟨by omega, by omega⟩, ?_⟩
        rw [natc, natc, e64, f66]
        refine ⟨fun _ => ⟨⟨by omega, by omega⟩, fun g0 => ?_, fun g0 => ⟨⟨by omega, by omega⟩, ?_⟩⟩, fun c => absurd c hu⟩
        · refine w201_143 hB _ _ _ _ _ _ l ⟨⟨by omega, by omega⟩, ?_⟩
          rw [natc, natc, zz_ne _ _ _ _ _ _ (by omega), f65]
          rw [tM_n (show zz s0 66 (rt k) < 0 by omega)] at esz1 ewr
          refine ⟨fun f0 => ?_, fun f0 => ⟨⟨by omega, by omega⟩, ?_⟩⟩
          · rw [tM_n (show zz s0 65 (rt k) < 0 by omega)] at esz1 ewr
            refine fin W sn _ (zz s0 64 (rt k)) (zz_same _ _ _ ir) (fun j hj => by rw [zz_ne _ _ _ _ _ _ (by omega)]) (fun q a b c e => by rw [zu_ne _ _ _ _ _ b]) (fun j hj => by rw [zz_ne _ _ _ _ _ _ (by omega)]) (hw.wr 70 _ _ (by omega)) (fun i hi => by rw [zz_ne _ _ _ _ _ _ (by omega)]; exact hkW i hi) hW' (by omega) ewr (esz1.trans (by show 1 + (0 + (0 + _)) = 1 + _; omega))
          · obtain ⟨f, ef⟩ : ∃ y : Nat, zz s0 65 (rt k) = y := ⟨(zz s0 65 (rt k)).toNat, by omega⟩
            rw [ef] at esz1 ewr hPr ⊢
            rw [show (W.length : Int) + 1 = (((f :: W).length : Nat) : Int) by rw [List.length_cons]; omega]
            refine fin (f :: W) sn _ (zz s0 64 (rt k)) (by rw [zz_ne _ _ _ _ _ _ (by omega)]; exact zz_same _ _ _ ir) (fun j hj => by rw [zz_ne _ _ _ _ _ _ (by omega), zz_ne _ _ _ _ _ _ (by omega)]) (fun q a b c e => by rw [zu_ne _ _ _ _ _ c, zu_ne _ _ _ _ _ b]) (fun j hj => by rw [zz_ne _ _ _ _ _ _ (by omega), zz_ne _ _ _ _ _ _ (by omega)]) ((hw.wr 70 _ _ (by omega)).wr 103 _ _ (by omega)) (fun i hi => ?_) (fun q hq => ?_) (by omega) ewr (esz1.trans (by show 1 + (szT (tM s0 rt h (f : Int)) + (0 + szN (W.map (tK s0 rt h)))) = 1 + (szT (tM s0 rt h (f : Int)) + szN (W.map (tK s0 rt h))); omega))
            · rw [List.length_cons] at hi ⊢
              cases i with
              | zero => exact zz_same _ _ _ ⟨by omega, by omega⟩
              | succ i =>
                rw [show W.length + 1 - 1 - (i + 1) = W.length - 1 - i by omega, zz_ne _ _ _ _ _ _ (by omega), zz_ne _ _ _ _ _ _ (by omega)]
                exact hkW i (by omega)
            · rcases List.mem_cons.mp hq with rfl | hq
              · omega
              · exact hW' q hq
        · obtain ⟨g, eg⟩ : ∃ y : Nat, zz s0 66 (rt k) = y := ⟨(zz s0 66 (rt k)).toNat, by omega⟩
          rw [eg] at esz1 ewr hPr ⊢
          refine w201_143 hB _ _ _ _ _ _ l ⟨⟨by omega, by omega⟩, ?_⟩
          rw [natc, natc, zz_ne _ _ _ _ _ _ (by omega), zz_ne _ _ _ _ _ _ (by omega), f65, show ((W.length : Int) + 1).toNat = W.length + 1 by omega]
          refine ⟨fun f0 => ?_, fun f0 => ⟨⟨by omega, by omega⟩, ?_⟩⟩
          · rw [tM_n (show zz s0 65 (rt k) < 0 by omega)] at esz1 ewr
            rw [show (W.length : Int) + 1 = (((g :: W).length : Nat) : Int) by rw [List.length_cons]; omega]
            refine fin (g :: W) sn _ (zz s0 64 (rt k)) (by rw [zz_ne _ _ _ _ _ _ (by omega)]; exact zz_same _ _ _ ir) (fun j hj => by rw [zz_ne _ _ _ _ _ _ (by omega), zz_ne _ _ _ _ _ _ (by omega)]) (fun q a b c e => by rw [zu_ne _ _ _ _ _ c, zu_ne _ _ _ _ _ b]) (fun j hj => by rw [zz_ne _ _ _ _ _ _ (by omega), zz_ne _ _ _ _ _ _ (by omega)]) ((hw.wr 70 _ _ (by omega)).wr 103 _ _ (by omega)) (fun i hi => ?_) (fun q hq => ?_) (by omega) ewr (esz1.trans (by show 1 + (0 + szN (tM s0 rt h (g : Int) :: W.map (tK s0 rt h))) = 1 + szN (tM s0 rt h (g : Int) :: W.map (tK s0 rt h)); omega))
            · rw [List.length_cons] at hi ⊢
              cases i with
              | zero => exact zz_same _ _ _ ⟨by omega, by omega⟩
              | succ i =>
                rw [show W.length + 1 - 1 - (i + 1) = W.length - 1 - i by omega, zz_ne _ _ _ _ _ _ (by omega), zz_ne _ _ _ _ _ _ (by omega)]
                exact hkW i (by omega)
            · rcases List.mem_cons.mp hq with rfl | hq
              · omega
              · exact hW' q hq
          · obtain ⟨f, ef⟩ : ∃ y : Nat, zz s0 65 (rt k) = y := ⟨(zz s0 65 (rt k)).toNat, by omega⟩
            rw [ef] at esz1 ewr hPr ⊢
            rw [show (W.length : Int) + 1 + 1 = (((f :: g :: W).length : Nat) : Int) by rw [List.length_cons, List.length_cons]; omega]
            refine fin (f :: g :: W) sn _ (zz s0 64 (rt k)) (by rw [zz_ne _ _ _ _ _ _ (by omega), zz_ne _ _ _ _ _ _ (by omega)]; exact zz_same _ _ _ ir) (fun j hj => by rw [zz_ne _ _ _ _ _ _ (by omega), zz_ne _ _ _ _ _ _ (by omega), zz_ne _ _ _ _ _ _ (by omega)]) (fun q a b c e => by rw [zu_ne _ _ _ _ _ c, zu_ne _ _ _ _ _ c, zu_ne _ _ _ _ _ b]) (fun j hj => by rw [zz_ne _ _ _ _ _ _ (by omega), zz_ne _ _ _ _ _ _ (by omega), zz_ne _ _ _ _ _ _ (by omega)]) (((hw.wr 70 _ _ (by omega)).wr 103 _ _ (by omega)).wr 103 _ _ (by omega)) (fun i hi => ?_) (fun q hq => ?_) (by omega) ewr esz1
            · rw [List.length_cons, List.length_cons] at hi ⊢
              cases i with
              | zero => exact zz_same _ _ _ ⟨by omega, by omega⟩
              | succ i =>
                cases i with
                | zero =>
                  rw [show W.length + 1 + 1 - 1 - (0 + 1) = W.length by omega, zz_ne _ _ _ _ _ _ (by omega)]
                  exact zz_same _ _ _ ⟨by omega, by omega⟩
                | succ i =>
                  rw [show W.length + 1 + 1 - 1 - (i + 1 + 1) = W.length - 1 - i by omega, zz_ne _ _ _ _ _ _ (by omega), zz_ne _ _ _ _ _ _ (by omega), zz_ne _ _ _ _ _ _ (by omega)]
                  exact hkW i (by omega)
            · rcases List.mem_cons.mp hq with rfl | hq
              · omega
              · rcases List.mem_cons.mp hq with rfl | hq
                · omega
                · exact hW' q hq
/-- all rows -/
def mkP (P : Nat) (s0 : aZ) (rt h : Nat → Nat) (L : List Nat) (i at' : Nat) (sn : List Nat) (B : aH) (s : aZ) (l : aZL) (q : aR) : Prop := ∃ s2, q = (.inl none, mkH B s2 l) ∧ RwF 69 70 s2 (wrL (L.map (tK s0 rt h)) sn).1 i at' ∧ (∀ j, j < L.length → zz s2 68 (i + j) = zz s 98 (i + j)) ∧ (∀ j, j < i → zz s2 68 j = zz s 68 j) ∧ (∀ j, j ≤ i → zz s2 69 j = zz s 69 j) ∧ (∀ j, j < at' → zz s2 70 j = zz s 70 j) ∧ (∀ k, k ≠ 56 → (k < 68 ∨ 70 < k) → k ≠ 103 → k ≠ 104 → s2 k = s k) ∧ ∀ j, j ≠ 69 → zz s2 56 j = zz s 56 j
theorem m_rows (hB : a_Can B) (hE : PEm ar P s0 rt u) (hA : AcP unM P (vwM s0) rt h) (hP : P ≤ 29000) {d : Nat} (hd : 2 ≤ d) (l : aZL) (m : Nat) (hm : m ≤ 510) : ∀ (L : List Nat) (i at' : Nat) (sn : List Nat) (s : aZ), i + L.length = m → at' ≤ 40 * i → (∀ k ∈ L, k < P ∧ szT (tK s0 rt h k) ≤ 40) → sn.length ≤ at' → mWr P s0 s sn → zz s 56 62 = (m : Nat) → zz s 69 i = (at' : Nat) → (∀ j, j < L.length → zz s 99 (i + j) = (L.getD j 0 : Nat)) → a_W d 200 45 [.ref 56, iv (i : Int)] [] (mkH B s l) (mkP P s0 rt h L i at' sn B s l) := by
  intro L
  induction L with
  | nil =>
    intro i at' sn s hi hat hL hsn hw h62 h69 h99
    have hi : i + 0 = m := hi
    exact w200_45 hB (by omega) _ s l ⟨⟨by omega, by omega⟩, fun _ => ⟨s, rfl, h69, fun j hj => absurd hj (Nat.not_lt_zero _), fun _ _ => rfl, fun _ _ => rfl, fun _ _ => rfl, fun _ _ _ _ _ => rfl, fun _ _ => rfl⟩, fun c => absurd c (by omega)⟩
  | cons k L ih =>
    intro i at' sn s hi hat hL hsn hw h62 h69 h99
    have hi : i + (L.length + 1) = m := hi
    obtain ⟨hk, hk40⟩ := hL k List.mem_cons_self
    have h99k : zz s 99 i = (k : Nat) := h99 0 (by show 0 < L.length + 1; omega)
    refine w200_45 hB (by omega) _ s l ⟨⟨by omega, by omega⟩, fun c => absurd c (by omega), fun _ => ⟨⟨by omega, by omega⟩, ⟨by omega, by omega⟩, ?_⟩⟩
    rw [natc, h99k, h69, show ((i : Int) + 1).toNat = i + 1 by omega]
    have hw1 := hw.wr 68 i (zz s 98 i) (by omega)
    have y0 : ∀ c j, (c ≠ 68 ∨ j ≠ i) → zz (zu s 68 i (zz s 98 i)) c j = zz s c j := fun c j hc => zz_ne _ _ _ _ _ _ (by omega)
    have y68 : zz (zu s 68 i (zz s 98 i)) 68 i = zz s 98 i := zz_same _ _ _ (inR_zz _ _ _)
    have yk : ∀ c, c ≠ 68 → (zu s 68 i (zz s 98 i)) c = s c := fun c hc => zu_ne _ _ _ _ _ hc
    generalize zu s 68 i (zz s 98 i) = s1 at *
    refine w201_0 hB _ _ s1 l ?_
    have hw2 := hw1.wr 103 0 (k : Int) (by omega)
    have x0 : ∀ c j, (c ≠ 103 ∨ j ≠ 0) → zz (zu s1 103 0 (k : Int)) c j = zz s1 c j := fun c j hc => zz_ne _ _ _ _ _ _ (by omega)
    have x103 : zz (zu s1 103 0 (k : Int)) 103 0 = (k : Int) := zz_same _ _ _ ⟨by omega, by omega⟩
    have xk : ∀ c, c ≠ 103 → (zu s1 103 0 (k : Int)) c = s1 c := fun c hc => zu_ne _ _ _ _ _ hc
    generalize zu s1 103 0 (k : Int) = s2 at *
    have esz : szN ([k].map (tK s0 rt h)) = szT (tK s0 rt h k) := Nat.add_zero _
    have ewr : wrN ([k].map (tK s0 rt h)) sn = wrT (tK s0 rt h k) sn := by
      show ((wrT (tK s0 rt h k) sn).1 ++ [], _) = _
      rw [List.append_nil]
      rfl
    have hln := wrT_len (tK s0 rt h k) sn
    refine a_W.imp (m_rloop hB hE hA hP (by omega) l (k : Int) (at' : Int) (szN ([k].map (tK s0 rt h))) [k] at' sn s2 (.retAddr 0) (Nat.le_refl _) (by rw [esz]; omega) (by rw [esz]; omega) (fun q hq => by rw [List.mem_singleton.mp hq]; exact hk) hsn hw2 (fun i hi => by
      have : i = 0 := by have : i < 1 := hi; omega
      subst this
      exact x103)) ?_
    rintro _ ⟨s5, rfl, g1, g2, g3, g4, g5⟩
    rw [esz, ewr] at *
    refine ⟨_, s5, l, rfl, ⟨by omega, by omega⟩, ?_⟩
    rw [show (i : Int) + 1 = ((i + 1 : Nat) : Int) by omega]
    have z0 : ∀ c j, (c ≠ 69 ∨ j ≠ i + 1) → zz (zu s5 69 (i + 1) ((at' + szT (tK s0 rt h k) : Nat) : Int)) c j = zz s5 c j := fun c j hc => zz_ne _ _ _ _ _ _ (by omega)
    have z69 : zz (zu s5 69 (i + 1) ((at' + szT (tK s0 rt h k) : Nat) : Int)) 69 (i + 1) = ((at' + szT (tK s0 rt h k) : Nat) : Int) := zz_same _ _ _ ⟨by omega, by omega⟩
    have zk : ∀ c, c ≠ 69 → (zu s5 69 (i + 1) ((at' + szT (tK s0 rt h k) : Nat) : Int)) c = s5 c := fun c hc => zu_ne _ _ _ _ _ hc
    have hw6 := g1.wr 69 (i + 1) ((at' + szT (tK s0 rt h k) : Nat) : Int) (by omega)
    generalize zu s5 69 (i + 1) ((at' + szT (tK s0 rt h k) : Nat) : Int) = s6 at *
    have hsn2 : (wrT (tK s0 rt h k) sn).2.length ≤ at' + szT (tK s0 rt h k) := by
      have := wrT_sn (tK s0 rt h k) sn
      omega
    have k6 : ∀ c j, c ≠ 56 → (c < 68 ∨ 70 < c) → c ≠ 103 → c ≠ 104 → zz s6 c j = zz s c j := fun c j a1 a2 a3 a4 => by rw [z0 c j (Or.inl (by omega)), zz_of (g4 c a1 (by omega) a3 a4), x0 c j (Or.inl (by omega)), y0 c j (Or.inl (by omega))]
    have k56 : ∀ j, j ≠ 69 → zz s6 56 j = zz s 56 j := fun j hj => by rw [z0 56 j (Or.inl (by decide)), g5 j hj, x0 56 j (Or.inl (by decide)), y0 56 j (Or.inl (by decide))]
    refine a_W.imp (ih (i + 1) (at' + szT (tK s0 rt h k)) _ s6 (by omega) (by omega) (fun q hq => hL q (List.mem_cons_of_mem _ hq)) hsn2 hw6 ((k56 62 (by decide)).trans h62) z69 (fun j hj => ?_)) ?_
    · rw [k6 99 _ (by decide) (by decide) (by decide) (by decide)]
      have := h99 (j + 1) (by show j + 1 < L.length + 1; omega)
      rw [show i + (j + 1) = i + 1 + j by omega] at this
      exact this
    · rintro _ ⟨s9, rfl, r1, r2, r3, r4, r5, r6, r7⟩
      refine ⟨s9, rfl, ⟨?_, fun j hj => ?_, ?_⟩, fun j hj => ?_, fun j hj => ?_, fun j hj => ?_, fun j hj => ?_, fun c a1 a2 a3 a4 => ?_, fun j hj => (r7 j hj).trans (k56 j hj)⟩
      · rw [r4 i (by omega), z0 69 i (Or.inr (by omega)), zz_of (g4 69 (by decide) (by decide) (by decide) (by decide)), x0 69 i (Or.inl (by decide)), y0 69 i (Or.inl (by decide))]; exact h69
      · have hj : j < (wrT (tK s0 rt h k) sn).1.length := hj
        rw [r5 (at' + j) (by omega), z0 70 _ (Or.inl (by decide))]
        exact g2 j (by omega)
      · show RwF 69 70 s9 (wrL (L.map (tK s0 rt h)) (wrT (tK s0 rt h k) sn).2).1 (i + 1) (at' + (wrT (tK s0 rt h k) sn).1.length)
        rw [hln]
        exact r1
      · cases j with
        | zero => rw [Nat.add_zero, r3 i (by omega), z0 68 i (Or.inl (by decide)), zz_of (g4 68 (by decide) (by decide) (by decide) (by decide)), x0 68 i (Or.inl (by decide))]; exact y68
        | succ j =>
          have := r2 j (by have : j + 1 < L.length + 1 := hj; omega)
          rw [show i + (j + 1) = i + 1 + j by omega, this, k6 98 _ (by decide) (by decide) (by decide) (by decide)]
      · rw [r3 j (by omega), z0 68 j (Or.inl (by decide)), zz_of (g4 68 (by decide) (by decide) (by decide) (by decide)), x0 68 j (Or.inl (by decide)), y0 68 j (Or.inr (by omega))]
      · rw [r4 j (by omega), z0 69 j (Or.inr (by omega)), zz_of (g4 69 (by decide) (by decide) (by decide) (by decide)), x0 69 j (Or.inl (by decide)), y0 69 j (Or.inl (by decide))]
      · rw [r5 j (by omega), z0 70 j (Or.inl (by decide)), g3 j hj, x0 70 j (Or.inl (by decide)), y0 70 j (Or.inl (by decide))]
      · rw [r6 c a1 a2 a3 a4, zk c (by omega), g4 c a1 (by omega) a3 a4, xk c (by omega), yk c (by omega)]
end
