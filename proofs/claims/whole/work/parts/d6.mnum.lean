/-! THE REFERENCE MAKES NUMERALS AND = ON BOOL -/
theorem nsC_N (τ : Int → aT) : nsC τ c0N = c0N := by unfold c0N; rw [nsC_n _ _ _ _ (by rw [dec_enc (by decide)]; decide)]; rfl
theorem nsC_B (τ : Int → aT) : nsC τ c0B = c0B := by unfold c0B; rw [nsC_n _ _ _ _ (by rw [dec_enc (by decide)]; decide)]; rfl
theorem nsC_A (τ : Int → aT) : nsC τ c0A = τ (-1000) := by unfold c0A; rw [nsC_v _ _ _ _ (by rw [dec_enc (by decide)]; decide), dec_enc (by decide)]
theorem nsC_F (τ : Int → aT) (x y : aT) : nsC τ (c0F x y) = c0F (nsC τ x) (nsC τ y) := by unfold c0F; rw [nsC_n _ _ _ _ (by rw [dec_enc (by decide)]; decide)]
def rN : Nat → List aT
  | 0 => [c0N]
  | r + 1 => c0N :: (fnT c0N c0N :: rN r)
theorem hd_rN : ∀ r, hdT (rN r) = c0N := by
  intro r
  cases r with
  | zero => rfl
  | succ r => rfl
section
variable {t : Nat → Int} {n : Nat} {ns tn : List (List Int)} {ta : List Int} {cn : List (List Int)} {ct : List aT} {fx jj : Nat} {B : aH}
theorem tyd_num (hct : CtO ct) : ∀ (r : Nat) (ρ R : List aT), tyd t n ns tn ct (numK r) ρ R ↔ R = rN r := by
  obtain ⟨-, -, c10, c11⟩ := hct
  intro r
  induction r with
  | zero =>
    intro ρ R
    rw [show numK 0 = .leaf (5, 10) from rfl, tyd_c, c10]
    exact ⟨fun ⟨τ, h⟩ => by rw [h, nsC_N]; rfl, fun h => ⟨fun _ => cNo, by rw [h, nsC_N]; rfl⟩⟩
  | succ r ih =>
    intro ρ R
    rw [show numK (r + 1) = apT (.leaf (5, 11)) (numK r) from rfl, tyd_ap]
    constructor
    · rintro ⟨τ, Rf, Rx, h1, h2, h3, h4⟩
      obtain ⟨τ2, h1⟩ := (tyd_c _ _ _).mp h1
      rw [c11, nsC_F, nsC_N] at h1
      rw [ih] at h2
      subst h1
      subst h2
      rw [hd_rN] at h4
      have h5 : c0F c0N c0N = fnT c0N τ := h4
      injection h5 with _ _ e
      rw [h3, ← e]
      rfl
    · intro h
      refine ⟨c0N, [fnT c0N c0N], rN r, (tyd_c _ _ _).mpr ⟨fun _ => cNo, ?_⟩, (ih _ _).mpr rfl, h, ?_⟩
      · rw [c11, nsC_F, nsC_N]; rfl
      · rw [hd_rN]; rfl
def numL (P : Nat) : Nat → Nat → List Nat
  | _, 0 => [P]
  | q, r + 1 => P :: (q :: numL P (q + 1) r)
theorem numL_len (P : Nat) : ∀ r q, (numL P q r).length = 2 * r + 1 := by
  intro r
  induction r with
  | zero => intro q; rfl
  | succ r ih => intro q; show (numL P (q + 1) r).length + 1 + 1 = _; rw [ih]; omega
theorem numL_hd (P q r : Nat) : (numL P q r).headD 0 = P := by cases r <;> rfl
theorem numL_lt (P : Nat) : ∀ r q, P < q → ∀ k ∈ numL P q r, k < q + r := by
  intro r
  induction r with
  | zero => intro q h k hk; rw [List.mem_singleton.mp hk]; omega
  | succ r ih =>
    intro q h k hk
    rcases List.mem_cons.mp hk with e | hk
    · omega
    · rcases List.mem_cons.mp hk with e | hk
      · omega
      · have := ih (q + 1) (by omega) k hk
        omega
/-- function nodes of numerals -/
def NmF (P q r : Nat) (s : aZ) : Prop := ∀ i, i < r → zz s 64 (q + i) = 2 ∧ zz s 65 (q + i) = (P : Nat) ∧ zz s 66 (q + i) = (P : Nat) ∧ zz s 67 (q + i) = -1
theorem numL_val {s : aZ} {P Pe : Nat} {v : Nat → aT} (hV : Vl unM Pe (vwM s) v) (hP : P < Pe) (h64 : zz s 64 P = 3) (h65 : zz s 65 P = -1) (h66 : zz s 66 P = -1) : ∀ (r q : Nat), NmF P q r s → q + r ≤ Pe → (numL P q r).map v = rN r := by
  have hN : v P = c0N := by
    have := (hV P hP).2 (by show zz s 64 P ≠ -1; omega)
    rw [show (vwM s).2.1 P = 3 from h64, show (vwM s).2.2.1 P = -1 from h65, show (vwM s).2.2.2 P = -1 from h66] at this
    exact this
  intro r
  induction r with
  | zero => intro q _ _; show [v P] = _; rw [hN]; rfl
  | succ r ih =>
    intro q hq hp
    show v P :: (v q :: (numL P (q + 1) r).map v) = c0N :: (fnT c0N c0N :: rN r)
    obtain ⟨g1, g2, g3, -⟩ := hq 0 (by omega)
    have e := (hV q (by omega)).2 (by show zz s 64 q ≠ -1; rw [show q = q + 0 from rfl, g1]; decide)
    rw [show (vwM s).2.1 q = 2 from g1, show (vwM s).2.2.1 q = (P : Nat) from g2, show (vwM s).2.2.2 q = (P : Nat) from g3, ptT_p _ _ (by omega), natc, hN] at e
    rw [hN, e, ih (q + 1) (fun i hi => by have := hq (i + 1) (by omega); rw [show q + (i + 1) = q + 1 + i by omega] at this; exact this) (by omega)]
    rfl
theorem m_numl (hB : a_Can B) {d : Nat} (hd : 2 ≤ d) (l : aZL) (P k V : Nat) (hV : V ≤ 49) : ∀ (r i q m : Nat) (s : aZ), i + r = V → zz s 56 16 = (q : Nat) → zz s 56 62 = (m : Nat) → m + (2 * r + 1) ≤ 520 → q + r ≤ 59000 → P < q → a_W d 195 10 [.ref 56, iv (V : Int), iv (P : Int), iv (i : Int)] [] (mkH B s l) (fun z => ∃ s2, z = (.inl (some (iv (P : Int))), mkH B s2 l) ∧ FrMk q m k s s2 ∧ (∀ c, 64 ≤ c → c ≤ 67 → ∀ j, j < q → zz s2 c j = zz s c j) ∧ zz s2 56 16 = ((q + r : Nat) : Int) ∧ zz s2 56 62 = ((m + (2 * r + 1) : Nat) : Int) ∧ RwM s2 m (syK (numK r)) (numL P q r) ∧ NmF P q r s2 ∧ zz s2 56 22 = zz s 56 22 ∧ zz s2 56 23 = zz s 56 23) := by
  intro r
  induction r with
  | zero =>
    intro i q m s hi h16 h62 hm hq hP
    refine w195_10 hB (by omega) _ _ _ s l ⟨⟨by omega, by omega⟩, ⟨by omega, by omega⟩, fun _ => ⟨⟨by omega, by omega⟩, ?_⟩, fun c => absurd c (by omega)⟩
    rw [h62, natc, show zu (zu (zu s 98 m 21) 99 m (P : Int)) 56 62 ((m : Int) + 1) = mdM s m 21 (P : Int) from rfl]
    obtain ⟨a1, a2, a3⟩ := mdM_at s m 21 (P : Int) (by omega) (by decide) ⟨by omega, by omega⟩
    have fm := mdM_fr s q m k 21 (P : Int)
    have ne := fun c j h => mdM_ne s m 21 (P : Int) c j h
    generalize mdM s m 21 (P : Int) = s3 at *
    exact ⟨s3, rfl, fm, fun c h1 h2 j _ => ne c j (by omega), (ne 56 16 (by omega)).trans h16, a3, RwM.one a1 a2, fun i hi => absurd hi (Nat.not_lt_zero _), ne 56 22 (by omega), ne 56 23 (by omega)⟩
  | succ r ih =>
    intro i q m s hi h16 h62 hm hq hP
    refine w195_10 hB (by omega) _ _ _ s l ⟨⟨by omega, by omega⟩, ⟨by omega, by omega⟩, fun c => absurd c (by omega), fun _ => ⟨⟨by omega, by omega⟩, ?_⟩⟩
    rw [h62, natc, show zu (zu (zu s 98 m (-1)) 99 m (P : Int)) 56 62 ((m : Int) + 1) = mdM s m (-1) (P : Int) from rfl]
    obtain ⟨a1, a2, a3⟩ := mdM_at s m (-1) (P : Int) (by omega) (by decide) ⟨by omega, by omega⟩
    have fm := mdM_fr s q m k (-1) (P : Int)
    have ne := fun c j h => mdM_ne s m (-1) (P : Int) c j h
    generalize mdM s m (-1) (P : Int) = s3 at *
    refine w138_0 hB (by omega) _ _ s3 l ?_
    rw [ne 56 16 (by omega), h16, natc]
    refine ⟨⟨by omega, by omega⟩, _, _, l, rfl, ?_⟩
    rw [show zu (zu (zu (zu (zu s3 64 q 2) 65 q (P : Int)) 66 q (P : Int)) 67 q (-1)) 56 16 ((q : Int) + 1) = ndM s3 q 2 (P : Int) (P : Int) from rfl, show (q : Int) + 1 - 1 = (q : Int) by omega]
    obtain ⟨b1, b2, b3, b4, b5⟩ := ndM_at s3 q 2 (P : Int) (P : Int) (by omega) (by decide) ⟨by omega, by omega⟩ ⟨by omega, by omega⟩
    have nn := fun c j h => ndM_ne s3 q 2 (P : Int) (P : Int) c j h
    have fn := (FrCp.nd q 0 s3 2 (P : Int) (P : Int)).mk m k
    generalize ndM s3 q 2 (P : Int) (P : Int) = s4 at *
    have e62 : zz s4 56 62 = ((m + 1 : Nat) : Int) := (nn 56 62 (by omega)).trans a3
    rw [e62, natc]
    refine ⟨⟨by omega, by omega⟩, ?_⟩
    rw [show zu (zu (zu s4 98 (m + 1) 23) 99 (m + 1) (q : Int)) 56 62 (((m + 1 : Nat) : Int) + 1) = mdM s4 (m + 1) 23 (q : Int) from rfl, show (i : Int) + 1 = ((i + 1 : Nat) : Int) by omega]
    obtain ⟨c1, c2, c3⟩ := mdM_at s4 (m + 1) 23 (q : Int) (by omega) (by decide) ⟨by omega, by omega⟩
    have fm5 := mdM_fr s4 q (m + 1) k 23 (q : Int)
    have n5 := fun c j h => mdM_ne s4 (m + 1) 23 (q : Int) c j h
    generalize mdM s4 (m + 1) 23 (q : Int) = s5 at *
    refine a_W.imp (ih (i + 1) (q + 1) (m + 2) s5 (by omega) ((n5 56 16 (by omega)).trans b5) c3 (by omega) (by omega) (by omega)) ?_
    rintro _ ⟨s6, rfl, f6, k6, e16, e62', rw6, nf6, q22, q23⟩
    refine ⟨s6, rfl, (((fm.tr fn (Nat.le_refl _) (Nat.le_refl _) (Nat.le_refl _)).tr fm5 (Nat.le_refl _) (by omega) (Nat.le_refl _)).tr f6 (by omega) (by omega) (Nat.le_refl _)), fun c h1 h2 j hj => ?_, by rw [e16]; omega, by rw [e62']; omega, ?_, fun y hy => ?_, ?_, ?_⟩
    · rw [k6 c h1 h2 j (by omega), n5 c j (by omega), nn c j (by omega), ne c j (by omega)]
    · show RwM s6 m (-1 :: (23 :: syK (numK r))) (P :: (q :: numL P (q + 1) r))
      refine RwM.cons (RwM.cons rw6 ?_ ?_) ?_ ?_
      · rw [(f6.2.2.2.2 (m + 1) (by omega)).1]; exact c1
      · rw [(f6.2.2.2.2 (m + 1) (by omega)).2]; exact c2
      · rw [(f6.2.2.2.2 m (by omega)).1, n5 98 m (by omega), nn 98 m (by omega)]; exact a1
      · rw [(f6.2.2.2.2 m (by omega)).2, n5 99 m (by omega), nn 99 m (by omega)]; exact a2
    · cases y with
      | zero =>
        show zz s6 64 q = 2 ∧ zz s6 65 q = _ ∧ zz s6 66 q = _ ∧ zz s6 67 q = -1
        rw [k6 64 (by decide) (by decide) q (by omega), k6 65 (by decide) (by decide) q (by omega), k6 66 (by decide) (by decide) q (by omega), k6 67 (by decide) (by decide) q (by omega), n5 64 q (by omega), n5 65 q (by omega), n5 66 q (by omega), n5 67 q (by omega)]
        exact ⟨b1, b2, b3, b4⟩
      | succ y => have := nf6 y (by omega); rw [show q + 1 + y = q + (y + 1) by omega] at this; exact this
    · rw [q22, n5 56 22 (by omega), nn 56 22 (by omega), ne 56 22 (by omega)]
    · rw [q23, n5 56 23 (by omega), nn 56 23 (by omega), ne 56 23 (by omega)]
theorem m_num (hB : a_Can B) {d : Nat} (hd : 3 ≤ d) (hct : CtO ct) (h2 : arT ta 2 = 2) (h3 : arT ta 3 = 0) {es ρ : List Nat} {k P m V : Nat} {s : aZ} {l : aZL} (hI : MkI t n ns tn ta cn ct fx jj es ρ k P m s l) (hE : ∃ rt u, PEm (arT ta) P s rt u) (h22 : zz s 56 22 = 0) (hV : V ≤ 49) (hP : P + (V + 1) ≤ 59000) (hm : m + (2 * V + 1) ≤ 520) : a_W d 195 0 [.ref 56, iv (V : Int), .retAddr 0, .retAddr 0] [] (mkH B s l) (MkO t n ns tn ta ct B ρ (numK V) (V + 1) P m k s l) := by
  obtain ⟨i1, i2, i3, i4, i5, i6, i7, i8, i9⟩ := hI
  obtain ⟨rt, u, hE⟩ := hE
  refine w195_0 hB (by omega) _ s l ?_
  rw [i6, natc]
  refine ⟨⟨by omega, by omega⟩, ?_⟩
  rw [show zu (zu (zu (zu (zu s 64 P 3) 65 P (-1)) 66 P (-1)) 67 P (-1)) 56 16 ((P : Int) + 1) = ndM s P 3 (-1) (-1) from rfl, show (P : Int) + 1 - 1 = (P : Int) by omega]
  obtain ⟨b1, b2, b3, b4, b5⟩ := ndM_at s P 3 (-1) (-1) (by omega) (by decide) (by decide) (by decide)
  have nn := fun c j h => ndM_ne s P 3 (-1) (-1) c j h
  have fn := (FrCp.nd P 0 s 3 (-1) (-1)).mk m k
  generalize ndM s P 3 (-1) (-1) = s1 at *
  refine a_W.imp (m_numl hB (by omega) l P k V hV V 0 (P + 1) m s1 (by omega) b5 ((nn 56 62 (by omega)).trans i7) hm (by omega) (by omega)) ?_
  rintro _ ⟨s2, rfl, f2, k2, e16, e62, rw2, nf2, q22, q23⟩
  have w := (numK_w V).1
  have hP0 : zz s2 64 P = 3 ∧ zz s2 65 P = -1 ∧ zz s2 66 P = -1 ∧ zz s2 67 P = -1 := by
    rw [k2 64 (by decide) (by decide) P (by omega), k2 65 (by decide) (by decide) P (by omega), k2 66 (by decide) (by decide) P (by omega), k2 67 (by decide) (by decide) P (by omega)]
    exact ⟨b1, b2, b3, b4⟩
  have hK : BkM (arT ta) P (P + 1 + V) s2 := fun y h1 h2' => by
    by_cases e : y = P
    · rw [e, hP0.1, hP0.2.1, hP0.2.2.1, hP0.2.2.2]
      refine ⟨rfl, ⟨by omega, by omega⟩, ⟨by omega, by omega⟩, by decide, fun _ => by rw [h3]; exact ⟨⟨fun c => by omega, fun c => by omega⟩, ⟨fun c => by omega, fun c => by omega⟩⟩, fun c => absurd c (by decide)⟩
    · obtain ⟨x, ex⟩ : ∃ x, y = P + 1 + x := ⟨y - (P + 1), by omega⟩
      obtain ⟨g1, g2, g3, g4⟩ := nf2 x (by omega)
      rw [ex, g1, g2, g3, g4]
      refine ⟨rfl, ⟨by omega, by omega⟩, ⟨by omega, by omega⟩, by decide, fun _ => by rw [h2]; exact ⟨⟨fun c => by omega, fun c => by omega⟩, ⟨fun c => by omega, fun c => by omega⟩⟩, fun c => absurd c (by decide)⟩
  obtain ⟨x1, x2, x3⟩ := hE.blk i9 (by omega) e16 (fun c h1 h2 j hj => (k2 c h1 h2 j (by omega)).trans (nn c j (by omega))) hK
  have val : ∀ v, Vl unM (P + 1 + V) (vwM s2) v → (numL P (P + 1) V).map v = rN V := fun v hv => numL_val hv (by omega) hP0.1 hP0.2.1 hP0.2.2.1 V (P + 1) nf2 (Nat.le_refl _)
  refine ⟨s2, P, P + 1 + V, m + (2 * V + 1), rfl, fn.tr f2 (by omega) (Nat.le_refl _) (Nat.le_refl _), ⟨e16, by omega, by omega⟩, ⟨e62, by omega, by omega⟩, Or.inr ⟨q22.trans ((nn 56 22 (by omega)).trans h22), q23.trans (nn 56 23 (by omega)), ?_, by omega, numL P (P + 1) V, rw2, by rw [numL_hd], by rw [numL_len, w], fun y hy => numL_lt P V (P + 1) (by omega) y hy, ⟨_, _, x1⟩, fun v hv => ⟨x2 v hv, (tyd_num hct V _ _).mpr (val v hv)⟩, fun v R hv hT => ?_⟩⟩
  · clear rw2 nf2 val hK hP0 x1 x2 x3 e16 e62 w k2
    have : ∀ r, bdA t n tn ta (numK r) = false := by
      intro r
      induction r with
      | zero => rfl
      | succ r ih =>
        show (bdA t n tn ta (.leaf (5, 11)) || bdA t n tn ta (numK r)) = false
        rw [ih]
        rfl
    exact this V
  · obtain ⟨v2, g1, g2, -⟩ := x3 v hv (fun _ => cNo)
    exact ⟨v2, g1, g2, by rw [val v2 g1, (tyd_num hct V _ _).mp hT]⟩
/-- = on bool -/
theorem iff_val (hct : CtO ct) {ρ : List Nat} {P P2 r g a : Nat} {s s2 s3 : aZ} {rt u : Nat → Nat} (h0 : 0 < P2) (hE : PEm (arT ta) P2 s2 rt u) (hs : ∀ v, Vl unM P2 (vwM s2) v → Vl unM P (vwM s) v ∧ ∃ τ, v r = nsC τ (ct.getD 0 cNo)) (hc : ∀ v τ, Vl unM P (vwM s) v → ∃ v2, Vl unM P2 (vwM s2) v2 ∧ (∀ k, k < P → v2 k = v k) ∧ v2 r = nsC τ (ct.getD 0 cNo)) (hr : r < P2) (hP : P ≤ P2) (hC : CV s2 P2 g (ct.getD 0 cNo) r) (ea : zz s2 65 r = (a : Nat)) (h16 : zz s3 56 16 = ((P2 + 1 : Nat) : Int)) (hf : ∀ c, 64 ≤ c → c ≤ 67 → ∀ k, k < P2 → zz s3 c k = zz s2 c k) (hN : BkM (arT ta) P2 (P2 + 1) s3) (e64 : zz s3 64 P2 = 0) (e65 : zz s3 65 P2 = -1) (e66 : zz s3 66 P2 = -1) : (∃ rt u, PEm (arT ta) (P2 + 1) s3 rt u) ∧ ((∀ v, Vl unM (P2 + 1) (vwM s3) v → v a ≠ v P2) → ∀ v, ¬ Vl unM P (vwM s) v) ∧ ∀ s4, (∃ rt u, PEm (arT ta) (P2 + 1) s4 rt u) → (∀ v, Vl unM (P2 + 1) (vwM s4) v ↔ (Vl unM (P2 + 1) (vwM s3) v ∧ v a = v P2)) → MVl t n ns tn ta ct ρ (.leaf (6, 0)) [r] P s (P2 + 1) s4 := by
  obtain ⟨c0, c6, -, -⟩ := hct
  rw [c0] at hs hc hC
  obtain ⟨b1, b2, b3⟩ := hE.blk h0 (by omega) h16 hf hN
  obtain ⟨-, r64, -, -⟩ := (CV.n (show ¬ dec (enc 2) < 0 by rw [dec_enc (by decide)]; decide)).mp hC
  rw [natc, dec_enc (by decide)] at r64
  have vB : ∀ v, Vl unM (P2 + 1) (vwM s3) v → v P2 = c0B := fun v hv => by
    have := (hv P2 (by omega)).2 (by show zz s3 64 P2 ≠ -1; omega)
    rw [show (vwM s3).2.1 P2 = 0 from e64, show (vwM s3).2.2.1 P2 = -1 from e65, show (vwM s3).2.2.2 P2 = -1 from e66] at this
    exact this
  have vr : ∀ v, Vl unM P2 (vwM s2) v → v r = .branch (enc 2) (v a) (ptT v (zz s2 66 r)) := fun v hv => by
    have := (hv r hr).2 (by show zz s2 64 r ≠ -1; omega)
    rw [show (vwM s2).2.1 r = 2 from r64, show (vwM s2).2.2.1 r = (a : Nat) from ea, show (vwM s2).2.2.2 r = zz s2 66 r from rfl, ptT_p _ (a : Int) (by omega), natc] at this
    exact this
  have go : ∀ v, Vl unM P (vwM s) v → ∃ v3, Vl unM (P2 + 1) (vwM s3) v3 ∧ (∀ k, k < P → v3 k = v k) ∧ v3 a = v3 P2 ∧ v3 r = c0F c0B (c0F c0B c0B) := fun v hV => by
    obtain ⟨v2, k1, k2, k3⟩ := hc v (fun _ => c0B) hV
    obtain ⟨v3, n1, n2, -⟩ := b3 v2 k1 (fun _ => cNo)
    rw [nsC_F, nsC_F, nsC_A, nsC_B] at k3
    have e3 : v3 r = c0F c0B (c0F c0B c0B) := (n2 r hr).trans k3
    refine ⟨v3, n1, fun k hk => (n2 k (by omega)).trans (k2 k hk), ?_, e3⟩
    have := vr v3 (b2 v3 n1)
    rw [e3] at this
    injection this with _ e _
    rw [vB v3 n1, ← e]
  refine ⟨⟨_, _, b1⟩, fun no v hV => ?_, fun s4 hE4 hj => ⟨hE4, fun v hv => ?_, fun v R hV hT => ?_⟩⟩
  · obtain ⟨v3, n1, -, n3, -⟩ := go v hV
    exact no v3 n1 n3
  · obtain ⟨g1, g2⟩ := (hj v).mp hv
    obtain ⟨g3, τ, g4⟩ := hs v (b2 v g1)
    refine ⟨g3, (tyd_b _ _ _).mpr ⟨τ, ?_⟩⟩
    rw [c6, nsC_F, nsC_F, nsC_B]
    have := vr v (b2 v g1)
    rw [g4, nsC_F, nsC_F, nsC_A, nsC_B] at this
    injection this with _ e _
    show [v r] = _
    rw [g4, nsC_F, nsC_F, nsC_A, nsC_B, e, g2, vB v g1]
  · obtain ⟨τ, hR⟩ := (tyd_b _ _ _).mp hT
    obtain ⟨v3, n1, n2, n3, n4⟩ := go v hV
    refine ⟨v3, (hj v3).mpr ⟨n1, n3⟩, n2, ?_⟩
    rw [hR, c6, nsC_F, nsC_F, nsC_B]
    show [v3 r] = _
    rw [n4]
end
