/-! THE REFERENCE MAKES A TERM: abstractions, terms with types -/
section
variable {t : Nat → Int} {n : Nat} {ns tn : List (List Int)} {ta : List Int} {cn : List (List Int)} {ct : List aT} {fx jj : Nat} {B : aH}
/-- the type of a variable: none written -/
theorem MVa.un {P : Nat} {s s1 : aZ} {rt u : Nat → Nat} (hE : PEm (arT ta) P s rt u) (h0 : 0 < P) (h16 : zz s1 56 16 = ((P + 1 : Nat) : Int)) (hf : ∀ c, 64 ≤ c → c ≤ 67 → ∀ k, k < P → zz s1 c k = zz s c k) (b1 : zz s1 64 P = -1) (b2 : zz s1 65 P = -1) (b3 : zz s1 66 P = -1) (b4 : zz s1 67 P = -1) : MVa noT P P s (P + 1) s1 t n ns tn ta := by
  obtain ⟨x1, x2, x3⟩ := hE.blk h0 (Nat.le_succ P) h16 hf (BkM.one (P := P) (-1) (-1) (-1) b1 b2 b3 b4 ⟨by omega, by omega⟩ ⟨by omega, by omega⟩ (by decide) (fun c => absurd rfl c) (fun _ => ⟨by decide, by decide⟩))
  refine ⟨⟨_, _, x1⟩, Nat.lt_succ_self _, fun v hv => ⟨x2 v hv, fun c => absurd rfl c⟩, fun v τ hv _ => ?_⟩
  obtain ⟨v2, g1, g2, g3⟩ := x3 v hv (fun _ => τ)
  exact ⟨v2, g1, g2, g3 P (Nat.le_refl _) (by omega) b1⟩
/-- written -/
theorem MVa.wr {a : aT} {P P1 x : Nat} {s s1 : aZ} {rt u : Nat → Nat} (hE : PEm (arT ta) P s rt u) (h0 : 0 < P) (hP : P ≤ P1) (h16 : zz s1 56 16 = (P1 : Nat)) (hf : ∀ c, 64 ≤ c → c ≤ 67 → ∀ k, k < P → zz s1 c k = zz s c k) (hx : x < P1) (hO : ∀ j, P ≤ j → j < P1 → zz s1 67 j = -1 ∧ okD ta s1 j) (hN : NI 64 65 66 s1 P P1 (cdT t n ns tn a) x) : (∀ v, Vl unM P1 (vwM s1) v → v x = cdT t n ns tn a) ∧ MVa a x P s P1 s1 t n ns tn ta := by
  obtain ⟨x1, x2, x3⟩ := hE.blk h0 hP h16 hf (okD.bk hO)
  have val : ∀ v, Vl unM P1 (vwM s1) v → v x = cdT t n ns tn a := fun v hv => by
    have := vm_NI (Nat.le_refl _) hv (fun j h1 h2 => (hO j h1 h2).2) _ _ hN (nL_cd t n ns tn a)
    rw [ptT_p _ _ (by omega), natc] at this
    exact this
  refine ⟨val, ⟨_, _, x1⟩, hx, fun v hv => ⟨x2 v hv, fun _ => val v hv⟩, fun v τ hv hτ => ?_⟩
  obtain ⟨v2, g1, g2, -⟩ := x3 v hv (fun _ => τ)
  by_cases e : a = noT
  · exfalso
    rw [e] at hN
    have hN : (x : Int) = -1 := hN
    omega
  · exact ⟨v2, g1, g2, by rw [val v2 g1, hτ e]⟩
/-- the body and the end of an abstraction -/
theorem m_abT (hB : a_Can B) {d : Nat} (hd : 3 ≤ d) (h2 : arT ta 2 = 2) {es ρ : List Nat} {a Kb : aT} {i Cb C P m k P1 : Nat} {s s4 : aZ} {l : aZL} {v6 p : Int} (hI : MkI t n ns tn ta cn ct fx jj es ρ k P m s l) (hk : k < 600) (e83 : zz s 83 p.toNat = (i : Nat)) (hi : tkN t n jj i) (hi6 : i < 6002) (hF : FrMk P m k s s4) (h62 : zz s4 56 62 = ((m + 1 : Nat) : Int)) (h98 : zz s4 98 m = -2) (h16 : zz s4 56 16 = (P1 : Nat)) (hP1 : P ≤ P1) (hPb : P1 + Cb + 1 ≤ 29000) (hC : P1 + Cb + 1 ≤ P + C) (hm : m + (1 + tmW Kb) ≤ 520)
    (hc : (zz s4 56 22 = 3 ∧ zz s4 56 23 = zz s 72 0 ∧ (bdA t n tn ta (.branch 1 a Kb) = true ∨ ∀ v R, Vl unM P (vwM s) v → ¬ tyd t n ns tn ct (.branch 1 a Kb) (ρ.map v) R)) ∨ (zz s4 56 22 = 0 ∧ zz s4 56 23 = zz s 56 23 ∧ tyBad t n tn ta a = false ∧ ∃ α : Nat, v6 = (α : Nat) ∧ MVa a α P s P1 s4 t n ns tn ta))
    (hb : ∀ (α : Nat) (s5 : aZ), (∀ c, c ≠ 56 → (c < 64 ∨ 67 < c) → (c < 92 ∨ 99 < c) → s5 c = s c) → MkI t n ns tn ta cn ct fx jj (i :: es) (α :: ρ) (k + 1) P1 (m + 1) s5 l → (∃ rt u, PEm (arT ta) P1 s5 rt u) → zz s5 56 22 = 0 → a_W (d - 1) 187 0 [.ref 56, iv (zz s 84 p.toNat), .retAddr 0, .retAddr 0, .retAddr 0, .retAddr 0, .retAddr 0] [] (mkH B s5 l) (MkO t n ns tn ta ct B (α :: ρ) Kb Cb P1 (m + 1) (k + 1) s5 l)) : ((0 ≤ (zz s4 56 59) ∧ (zz s4 56 59) < 600) ∧ a_W (d - 1) 187 0 [.ref 56, iv (zz s4 84 p.toNat), .retAddr 0, .retAddr 0, .retAddr 0, .retAddr 0, .retAddr 0] [] (mkH B (zu (zu (zu s4 96 (zz s4 56 59).toNat (zz s4 83 p.toNat)) 97 (zz s4 56 59).toNat v6) 56 59 ((zz s4 56 59) + 1)) l) (fun r => ∃ (v10 : Int) (s8 : Nat → Nat → Int32) (l9 : Nat → Nat → Int64), r = (.inl (some (iv v10)), mkH B s8 l9) ∧ a_W (d - 1) 138 0 [.ref 56, iv v6, iv v10] [] (mkH B (zu s8 56 59 ((zz s8 56 59) - 1)) l9) (fun r => ∃ (v13 : Int) (s11 : Nat → Nat → Int32) (l12 : Nat → Nat → Int64), r = (.inl (some (iv v13)), mkH B s11 l12) ∧ MkO t n ns tn ta ct B ρ (.branch 1 a Kb) C P m k s l (.inl (some (iv v13)), (mkH B (zu s11 99 (zz s 56 62).toNat v13) l12))))) := by
  have hI' := hI
  obtain ⟨i1, i2, i3, i4, i5, i6, i7, i8, i9⟩ := hI
  have e59 : zz s4 56 59 = (k : Nat) := (hF.2.1 59 (by decide) (by decide) (by decide) (by decide) (by decide)).trans i5
  have e83' : zz s4 83 p.toNat = (i : Nat) := (zz_of (hF.1 83 (by decide) (by decide) (by decide)) _).trans e83
  rw [e59, natc, e83', i7, natc, zz_of (hF.1 84 (by decide) (by decide) (by decide))]
  refine ⟨⟨by omega, by omega⟩, ?_⟩
  have wK : tmW (.branch 1 a Kb) = 1 + tmW Kb := rfl
  -- the state with one variable more
  have y0 : ∀ c j, (c ≠ 96 ∨ j ≠ k) → (c ≠ 97 ∨ j ≠ k) → (c ≠ 56 ∨ j ≠ 59) → zz (zu (zu (zu s4 96 k (i : Int)) 97 k v6) 56 59 ((k : Int) + 1)) c j = zz s4 c j := fun c j h1 h2 h3 => by rw [zz_ne _ _ _ _ _ _ (by omega), zz_ne _ _ _ _ _ _ (by omega), zz_ne _ _ _ _ _ _ (by omega)]
  have yk : ∀ c, c ≠ 96 → c ≠ 97 → c ≠ 56 → (zu (zu (zu s4 96 k (i : Int)) 97 k v6) 56 59 ((k : Int) + 1)) c = s4 c := fun c h1 h2 h3 => by rw [zu_ne _ _ _ _ _ h3, zu_ne _ _ _ _ _ h2, zu_ne _ _ _ _ _ h1]
  have y96 : zz (zu (zu (zu s4 96 k (i : Int)) 97 k v6) 56 59 ((k : Int) + 1)) 96 k = (i : Nat) := by rw [zz_ne _ _ _ _ _ _ (by omega), zz_ne _ _ _ _ _ _ (by omega)]; exact zz_same _ _ _ ⟨by omega, by omega⟩
  have y97 : inR v6 → zz (zu (zu (zu s4 96 k (i : Int)) 97 k v6) 56 59 ((k : Int) + 1)) 97 k = v6 := fun h => by rw [zz_ne _ _ _ _ _ _ (by omega)]; exact zz_same _ _ _ h
  have y59 : zz (zu (zu (zu s4 96 k (i : Int)) 97 k v6) 56 59 ((k : Int) + 1)) 56 59 = ((k + 1 : Nat) : Int) := by rw [zz_same _ _ _ ⟨by omega, by omega⟩]; rfl
  generalize zu (zu (zu s4 96 k (i : Int)) 97 k v6) 56 59 ((k : Int) + 1) = s5 at *
  have k5 : ∀ c, c ≠ 56 → (c < 64 ∨ 67 < c) → (c < 92 ∨ 99 < c) → s5 c = s c := fun c h1 h2 h3 => (yk c (by omega) (by omega) h1).trans (hF.1 c h1 h2 h3)
  -- what is left at the end
  have fin : ∀ (v10 : Int) (s8 : aZ) (P2 m2 : Nat), FrMk P1 (m + 1) (k + 1) s5 s8 → zz s8 56 16 = (P2 : Nat) → P1 ≤ P2 → P2 ≤ P1 + Cb → zz s8 56 62 = (m2 : Nat) → m + 1 ≤ m2 → m2 ≤ m + 1 + tmW Kb → ((zz s8 56 22 = 3 ∧ zz s8 56 23 = zz s 72 0 ∧ (bdA t n tn ta (.branch 1 a Kb) = true ∨ ∀ v R, Vl unM P (vwM s) v → ¬ tyd t n ns tn ct (.branch 1 a Kb) (ρ.map v) R)) ∨ (zz s8 56 22 = 0 ∧ zz s8 56 23 = zz s 56 23 ∧ bdA t n tn ta (.branch 1 a Kb) = false ∧ m2 = m + 1 + tmW Kb ∧ ∃ (α : Nat) (Lb : List Nat), (v6 = (α : Nat) ∧ v10 = (Lb.headD 0 : Nat)) ∧ RwM s8 (m + 1) (syK Kb) Lb ∧ Lb.length = tmW Kb ∧ (∀ k ∈ Lb, k < P2) ∧ MVa a α P s P1 s4 t n ns tn ta ∧ MVl t n ns tn ta ct (α :: ρ) Kb Lb P1 s4 P2 s8)) → a_W (d - 1) 138 0 [.ref 56, iv v6, iv v10] [] (mkH B (zu s8 56 59 ((zz s8 56 59) - 1)) l) (fun r => ∃ (v13 : Int) (s11 : Nat → Nat → Int32) (l12 : Nat → Nat → Int64), r = (.inl (some (iv v13)), mkH B s11 l12) ∧ MkO t n ns tn ta ct B ρ (.branch 1 a Kb) C P m k s l (.inl (some (iv v13)), (mkH B (zu s11 99 m v13) l12))) := by
    intro v10 s8 P2 m2 f8 q16 qP qP2 q62 qm1 qm2 hc8
    have e59' : zz s8 56 59 = ((k + 1 : Nat) : Int) := (f8.2.1 59 (by decide) (by decide) (by decide) (by decide) (by decide)).trans y59
    rw [e59', show ((k + 1 : Nat) : Int) - 1 = (k : Int) by omega]
    have x0 : ∀ c j, (c ≠ 56 ∨ j ≠ 59) → zz (zu s8 56 59 (k : Int)) c j = zz s8 c j := fun c j h => zz_ne _ _ _ _ _ _ (by omega)
    have x59 : zz (zu s8 56 59 (k : Int)) 56 59 = (k : Int) := zz_same _ _ _ ⟨by omega, by omega⟩
    have xk : ∀ c, c ≠ 56 → (zu s8 56 59 (k : Int)) c = s8 c := fun c h => zu_ne _ _ _ _ _ h
    generalize zu s8 56 59 (k : Int) = s9 at *
    have f9 : FrMk P m k s s9 := by
      refine ⟨fun c h1 h2 h3 => (xk c h1).trans ((f8.1 c h1 h2 h3).trans (k5 c h1 h2 h3)), fun j h1 h2 h3 h4 h5 => ?_, fun c h1 h2 j hj => ?_, fun j hj => ⟨?_, ?_⟩, fun j hj => ⟨?_, ?_⟩⟩
      · by_cases e : j = 59
        · rw [e, x59, i5]
        · rw [x0 56 j (Or.inr e), f8.2.1 j h1 h2 h3 h4 h5, y0 56 j (Or.inl (by decide)) (Or.inl (by decide)) (Or.inr e)]
          exact hF.2.1 j h1 h2 h3 h4 h5
      · rw [x0 c j (Or.inl (by omega)), f8.2.2.1 c h1 h2 j (by omega), y0 c j (Or.inl (by omega)) (Or.inl (by omega)) (Or.inl (by omega))]
        exact hF.2.2.1 c h1 h2 j hj
      · rw [x0 96 j (Or.inl (by decide)), (f8.2.2.2.1 j (by omega)).1, y0 96 j (Or.inr (by omega)) (Or.inl (by decide)) (Or.inl (by decide))]
        exact (hF.2.2.2.1 j hj).1
      · rw [x0 97 j (Or.inl (by decide)), (f8.2.2.2.1 j (by omega)).2, y0 97 j (Or.inl (by decide)) (Or.inr (by omega)) (Or.inl (by decide))]
        exact (hF.2.2.2.1 j hj).2
      · rw [x0 98 j (Or.inl (by decide)), (f8.2.2.2.2 j (by omega)).1, y0 98 j (Or.inl (by decide)) (Or.inl (by decide)) (Or.inl (by decide))]
        exact (hF.2.2.2.2 j hj).1
      · rw [x0 99 j (Or.inl (by decide)), (f8.2.2.2.2 j (by omega)).2, y0 99 j (Or.inl (by decide)) (Or.inl (by decide)) (Or.inl (by decide))]
        exact (hF.2.2.2.2 j hj).2
    have w98 : zz s9 98 m = -2 := by rw [x0 98 m (Or.inl (by decide)), (f8.2.2.2.2 m (by omega)).1, y0 98 m (Or.inl (by decide)) (Or.inl (by decide)) (Or.inl (by decide))]; exact h98
    refine w138_0 hB (by omega) _ _ s9 l ?_
    rw [x0 56 16 (Or.inr (by decide)), q16, natc]
    refine ⟨⟨by omega, by omega⟩, _, _, l, rfl, ?_⟩
    rw [show zu (zu (zu (zu (zu s9 64 P2 2) 65 P2 v6) 66 P2 v10) 67 P2 (-1)) 56 16 ((P2 : Int) + 1) = ndM s9 P2 2 v6 v10 from rfl, show (P2 : Int) + 1 - 1 = (P2 : Int) by omega]
    have e16 := ndM_16 s9 P2 2 v6 v10 (by omega)
    have nn := fun c j h => ndM_ne s9 P2 2 v6 v10 c j h
    have at2 := ndM_at s9 P2 2 v6 v10 (by omega) (by decide)
    have fn := FrMk.nd s9 P2 m k 2 v6 v10
    generalize ndM s9 P2 2 v6 v10 = s11 at *
    have z0 : ∀ c j, (c ≠ 99 ∨ j ≠ m) → zz (zu s11 99 m (P2 : Int)) c j = zz s11 c j := fun c j h => zz_ne _ _ _ _ _ _ (by omega)
    have z99 : zz (zu s11 99 m (P2 : Int)) 99 m = (P2 : Int) := zz_same _ _ _ ⟨by omega, by omega⟩
    have fz : FrMk P2 m k s11 (zu s11 99 m (P2 : Int)) := ⟨fun c h1 _ h3 => zu_ne _ _ _ _ _ (by omega), fun j _ _ _ _ _ => z0 56 j (Or.inl (by decide)), fun c h1 h2 j _ => z0 c j (Or.inl (by omega)), fun j _ => ⟨z0 96 j (Or.inl (by decide)), z0 97 j (Or.inl (by decide))⟩, fun j hj => ⟨z0 98 j (Or.inl (by decide)), z0 99 j (Or.inr (by omega))⟩⟩
    generalize zu s11 99 m (P2 : Int) = s12 at *
    have g56 : ∀ j, j ≠ 16 → j ≠ 59 → zz s12 56 j = zz s8 56 j := fun j h1 h2 => by rw [z0 56 j (Or.inl (by decide)), nn 56 j (by omega), x0 56 j (Or.inr h2)]
    refine ⟨s12, P2, P2 + 1, m2, rfl, (f9.tr fn (by omega) (Nat.le_refl _) (Nat.le_refl _)).tr fz (by omega) (Nat.le_refl _) (Nat.le_refl _), ⟨(z0 56 16 (Or.inl (by decide))).trans e16, by omega, by omega⟩, ⟨(g56 62 (by decide) (by decide)).trans q62, by omega, by omega⟩, ?_⟩
    rw [MkR, g56 22 (by decide) (by decide), g56 23 (by decide) (by decide)]
    rcases hc8 with ⟨c1, c2, c3⟩ | ⟨c1, c2, c3, c4, α, Lb, ⟨rfl, rfl⟩, c5, c6, c7, c8, c9⟩
    · exact Or.inl ⟨c1, c2, c3⟩
    · have lb : 0 < Lb.length := by have := (tm_pos Kb).1; omega
      have hdm : (Lb.headD 0) ∈ Lb := by
        cases Lb with
        | nil => exact absurd lb (by decide)
        | cons a L => exact List.mem_cons_self
      have hbl := c7 _ hdm
      have hαl := c8.2.1
      obtain ⟨g1, g2, g3, g4, g5⟩ := at2 ⟨by omega, by omega⟩ ⟨by omega, by omega⟩
      have zz' : ∀ c j, 64 ≤ c → c ≤ 67 → zz s12 c j = zz s11 c j := fun c j h1 h2 => z0 c j (Or.inl (by omega))
      have kp : ∀ c, 64 ≤ c → c ≤ 67 → ∀ j, j < P2 → zz s12 c j = zz s8 c j := fun c h1 h2 j hj => by rw [zz' c j h1 h2, nn c j (by omega), x0 c j (Or.inl (by omega))]
      have hN : BkM (arT ta) P2 (P2 + 1) s12 := BkM.one (P := P2) 2 _ _ ((zz' 64 P2 (by decide) (by decide)).trans g1) ((zz' 65 P2 (by decide) (by decide)).trans g2) ((zz' 66 P2 (by decide) (by decide)).trans g3) ((zz' 67 P2 (by decide) (by decide)).trans g4) ⟨by omega, by omega⟩ ⟨by omega, by omega⟩ (by decide) (fun _ => by rw [h2]; omega) (fun c => absurd c (by decide))
      refine Or.inr ⟨c1, c2, c3, by omega, P2 :: Lb, ?_, rfl, ?_, fun y hy => ?_, MVl.ab c8 c9 i4 hP1 qP (by omega) lb c7 ((z0 56 16 (Or.inl (by decide))).trans e16) kp hN ((zz' 64 P2 (by decide) (by decide)).trans g1) ((zz' 65 P2 (by decide) (by decide)).trans g2) ((zz' 66 P2 (by decide) (by decide)).trans g3)⟩
      · show RwM s12 m (-2 :: syK Kb) (P2 :: Lb)
        refine RwM.cons (c5.keep (fun j h1 _ => ⟨?_, ?_⟩)) ?_ z99
        · rw [z0 98 j (Or.inl (by decide)), nn 98 j (by omega), x0 98 j (Or.inl (by decide))]
        · rw [z0 99 j (Or.inr (by omega)), nn 99 j (by omega), x0 99 j (Or.inl (by decide))]
        · rw [z0 98 m (Or.inl (by decide)), nn 98 m (by omega)]; exact w98
      · rw [List.length_cons, c6, wK]; omega
      · rcases List.mem_cons.mp hy with e | hy
        · omega
        · have := c7 y hy; omega
  rcases hc with ⟨c1, c2, c3⟩ | ⟨c1, c2, c3, α, rfl, c4⟩
  · refine a_W.imp (m_makeF hB (by omega) _ s5 l (by rw [y0 56 22 (Or.inl (by decide)) (Or.inl (by decide)) (Or.inr (by decide)), c1]; decide)) ?_
    rintro _ rfl
    have z22 := y0 56 22 (Or.inl (by decide)) (Or.inl (by decide)) (Or.inr (by decide))
    have z23 := y0 56 23 (Or.inl (by decide)) (Or.inl (by decide)) (Or.inr (by decide))
    exact ⟨_, s5, l, rfl, fin 0 s5 P1 (m + 1) (FrMk.rf _ _ _ _) ((y0 56 16 (Or.inl (by decide)) (Or.inl (by decide)) (Or.inr (by decide))).trans h16) (Nat.le_refl _) (by omega) ((y0 56 62 (Or.inl (by decide)) (Or.inl (by decide)) (Or.inr (by decide))).trans h62) (Nat.le_refl _) (by omega) (Or.inl ⟨z22.trans c1, z23.trans c2, c3⟩)⟩
  · have z22 := y0 56 22 (Or.inl (by decide)) (Or.inl (by decide)) (Or.inr (by decide))
    have z23 := y0 56 23 (Or.inl (by decide)) (Or.inl (by decide)) (Or.inr (by decide))
    have z16 := (y0 56 16 (Or.inl (by decide)) (Or.inl (by decide)) (Or.inr (by decide))).trans h16
    have eq5 : eqP s4 s5 := fun c h1 h2 j => y0 c j (Or.inl (by omega)) (Or.inl (by omega)) (Or.inl (by omega))
    have hα := c4.2.1
    have hI4 := hI'.fr hF h16 h62 hP1
    obtain ⟨j1, j2, j3, j4, j5, j6, j7, j8, j9⟩ := hI4
    have hI5 : MkI t n ns tn ta cn ct fx jj (i :: es) (α :: ρ) (k + 1) P1 (m + 1) s5 l := by
      refine ⟨⟨j1.1.fr (y0 56 3 (Or.inl (by decide)) (Or.inl (by decide)) (Or.inr (by decide))) (y0 56 17 (Or.inl (by decide)) (Or.inl (by decide)) (Or.inr (by decide))) (yk 59 (by decide) (by decide) (by decide)) (yk 60 (by decide) (by decide) (by decide)) (fun c h1 h2 j _ => eq5 c h1 (by omega) j) rfl, j1.2.1.fr (y0 56 4 (Or.inl (by decide)) (Or.inl (by decide)) (Or.inr (by decide))) (yk 62 (by decide) (by decide) (by decide)) rfl, fun x hx => ?_⟩, ⟨⟨hi, y96⟩, MEs.keep es k (fun x hx => y0 96 x (Or.inr (by omega)) (Or.inl (by decide)) (Or.inl (by decide))) j2⟩, ⟨y97 ⟨by omega, by omega⟩, MEt.keep ρ k (fun x hx => y0 97 x (Or.inl (by decide)) (Or.inr (by omega)) (Or.inl (by decide))) j3⟩, fun x hx => ?_, y59, z16, (y0 56 62 (Or.inl (by decide)) (Or.inl (by decide)) (Or.inr (by decide))).trans h62, j8, j9⟩
      · obtain ⟨t1, t2, t3, t4, t5, t6⟩ := j1.2.2 x hx
        exact ⟨t1, (zz_of (yk 71 (by decide) (by decide) (by decide)) x).trans t2, (zz_of (yk 72 (by decide) (by decide) (by decide)) x).trans t3, fun q => (zz_of (yk 73 (by decide) (by decide) (by decide)) x).trans (t4 q), fun q => (zz_of (yk 73 (by decide) (by decide) (by decide)) x).trans (t5 q), t6⟩
      · rcases List.mem_cons.mp hx with e | hx
        · rw [e]; exact hα
        · exact j4 x hx
    obtain ⟨rt, u, hE⟩ := c4.1
    refine a_W.imp (hb α s5 k5 hI5 ⟨rt, u, hE.vw eq5 (y0 56 16 (Or.inl (by decide)) (Or.inl (by decide)) (Or.inr (by decide)))⟩ (z22.trans c1)) ?_
    rintro _ ⟨s8, r, P2, m2, rfl, f8, ⟨p1, p2, p3⟩, ⟨p4, p5, p6⟩, hR⟩
    refine ⟨_, s8, l, rfl, fin r s8 P2 m2 f8 p1 p2 p3 p4 p5 p6 ?_⟩
    rcases hR with ⟨x1, x2, x3⟩ | ⟨x1, x2, x3, x4, Lb, x5, x6, x7, x8, x9⟩
    · refine Or.inl ⟨x1, x2.trans (zz_of (k5 72 (by decide) (by decide) (by decide)) 0), ?_⟩
      rcases x3 with x3 | x3
      · left
        show (tyBad t n tn ta a || bdA t n tn ta Kb) = true
        rw [x3, Bool.or_true]
      · right
        rw [eq5.vw] at x3
        exact c4.no i4 x3
    · refine Or.inr ⟨x1, x2.trans (z23.trans c2), ?_, x4, α, Lb, ⟨rfl, x6⟩, x5, x7, x8, c4, x9.vw0 eq5⟩
      show (tyBad t n tn ta a || bdA t n tn ta Kb) = false
      rw [c3, x3]
      rfl
end
