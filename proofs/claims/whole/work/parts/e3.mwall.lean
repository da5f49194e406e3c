/-! THE REFERENCE WEIGHS ALL TYPES -/
section
variable {B : aH} {ar : Int → Nat} {P : Nat} {rt u : Nat → Nat}
theorem WvI.k {s s2 : aZ} (h : WvI P rt s) (e : ∀ c j, c = 65 ∨ c = 66 ∨ c = 100 ∨ c = 101 ∨ c = 102 → zz s2 c j = zz s c j) : WvI P rt s2 := by
  have e65 := fun j => e 65 j (by omega)
  have e66 := fun j => e 66 j (by omega)
  have e100 := fun j => e 100 j (by omega)
  have e101 := fun j => e 101 j (by omega)
  have e102 := fun j => e 102 j (by omega)
  have hn : n2M P s2 = n2M P s := n2M_eq (fun k => by rw [e100])
  have ew : ∀ z : Int, wvM s2 z = wvM s z := fun z => by unfold wvM; rw [e101]
  have eh : ∀ z : Int, hvM s2 z = hvM s z := fun z => by unfold hvM; rw [e102]
  refine ⟨fun j hj => by rw [e100]; exact h.1 j hj, fun k hk h2 => ?_⟩
  rw [e100] at h2
  obtain ⟨w1, w2, w3, w4, w5, w6, w7⟩ := h.2 k hk h2
  unfold pOf
  rw [e65, e66, ew, ew, eh, eh, e101, e102, hn]
  exact ⟨w1, fun x hx hn => by rw [e100]; exact w2 x hx hn, w3, w4, w5, w6, w7⟩
theorem m_weigh (hB : a_Can B) {d : Nat} (hd : 2 ≤ d) (hP : P ≤ 29000) (l : aZL) (x : Nat) (hx : x < P) (s : aZ) (h22 : zz s 56 22 = 0) (hL : PLm ar P rt u s) (hW : WvI P rt s) (h1 : ∀ k, k < P → zz s 100 k ≠ 1) : a_W d 199 0 [.ref 56, iv (x : Int), .retAddr 0, .retAddr 0, .retAddr 0, .retAddr 0, .retAddr 0] [] (mkH B s l) (WgO P rt [rt x] B s l) := by
  refine w199_0 hB (by omega) _ s l (a_W.imp (m_last hB l (by omega) s hL.1 hL.2.1 x hx) ?_)
  rintro _ rfl
  refine ⟨_, s, l, rfl, ?_⟩
  obtain ⟨q1, q2⟩ := rt_rt hL.2.1 hx
  have y0 : ∀ c j, c ≠ 103 → zz (zu s 103 0 ((rt x : Nat) : Int)) c j = zz s c j := fun c j h => zz_ne _ _ _ _ _ _ (by omega)
  have y3 : zz (zu s 103 0 ((rt x : Nat) : Int)) 103 0 = ((rt x : Nat) : Int) := zz_same _ _ _ ⟨by omega, by omega⟩
  have yk : ∀ c, c ≠ 103 → (zu s 103 0 ((rt x : Nat) : Int)) c = s c := fun c h => zu_ne _ _ _ _ _ h
  generalize zu s 103 0 ((rt x : Nat) : Int) = s1 at *
  have fr : FrWg s s1 := ⟨fun c h1 h2 => yk c (by omega), fun j _ _ => y0 56 j (by decide), fun k h => ⟨(y0 100 k (by decide)).trans h, y0 101 k (by decide), y0 102 k (by decide)⟩⟩
  have hn := n2M_le P s1
  have key := m_wloop hB hd hP l (x : Int) (2 * P) [rt x] s1 (.retAddr 0) (.retAddr 0) (.retAddr 0) (.retAddr 0) (by omega) ((y0 56 22 (by decide)).trans h22) (hL.fr fr.eqP (y0 56 16 (by decide))) (hW.k (fun c j h => y0 c j (by omega))) (by
    refine ⟨fun y hy => by rw [List.mem_singleton.mp hy]; exact ⟨q1, q2⟩, fun i hi => ?_, fun k hk e => absurd ((y0 100 k (by decide)).symm.trans e) (h1 k hk), fun y hy => absurd hy List.not_mem_nil, trivial, List.nodup_cons.mpr ⟨List.not_mem_nil, List.nodup_nil⟩, fun k L2 e => ?_⟩
    · have : i = 0 := by have : i < 1 := hi; omega
      subst this
      exact y3
    · injection e with e1 e2
      subst e1
      have := hW.1 (rt x) q1
      have := h1 (rt x) q1
      rw [y0 100 _ (by decide)]
      rcases (show zz s 100 (rt x) = 2 ∨ zz s 100 (rt x) = 0 by omega) with c | c
      · exact Or.inl ⟨c, e2.symm⟩
      · exact Or.inr (Or.inl ⟨c, by show 1 ≤ _; omega⟩))
  refine a_W.imp key ?_
  rintro _ ⟨s9, rfl, f9, h9⟩
  refine ⟨s9, rfl, fr.tr f9, ?_⟩
  rcases h9 with ⟨g1, g2, g3⟩ | ⟨g1, g2, g3, g4, g5⟩
  · refine Or.inl ⟨g1, g2.trans (y0 72 0 (by decide)), ?_⟩
    rw [fr.eqP.vw] at g3
    exact g3
  · exact Or.inr ⟨g1, g2.trans (y0 56 23 (by decide)), g3, g4, g5⟩
/-- what weighing all may touch -/
def FrWa (s s2 : aZ) : Prop := (∀ c, c ≠ 56 → (c < 100 ∨ 103 < c) → s2 c = s c) ∧ ∀ j, j ≠ 22 → j ≠ 23 → zz s2 56 j = zz s 56 j
theorem FrWg.wa {s s2 : aZ} (f : FrWg s s2) : FrWa s s2 := ⟨f.1, f.2.1⟩
theorem FrWa.tr {s1 s2 s3 : aZ} (a : FrWa s1 s2) (b : FrWa s2 s3) : FrWa s1 s3 := ⟨fun c h1 h2 => (b.1 c h1 h2).trans (a.1 c h1 h2), fun j h1 h2 => (b.2 j h1 h2).trans (a.2 j h1 h2)⟩
theorem FrWa.eqP {s s2 : aZ} (f : FrWa s s2) : eqP s s2 := fun c h1 h2 j => zz_of (f.1 c (by omega) (by omega)) j
/-- what weighing all comes to -/
def WaO (P fx : Nat) (rt : Nat → Nat) (L : List Nat) (B : aH) (s : aZ) (l : aZL) (q : aR) : Prop := ∃ s2, q = (.inl none, mkH B s2 l) ∧ FrWa s s2 ∧ ((zz s2 56 22 = 3 ∧ zz s2 56 23 = zz s 72 0 ∧ ∀ v, ¬ Vl unM P (vwM s) v) ∨ (WvI P rt s2 ∧ (∀ k, fx ≤ k → k < P → zz s2 100 (rt k) = 2) ∧ (∀ k ∈ L, zz s2 100 (rt k) = 2) ∧ (((∃ k ∈ L, 40 < zz s2 101 (rt k) ∨ 12 < zz s2 102 (rt k)) ∧ zz s2 56 22 = 8 ∧ zz s2 56 23 = zz s 72 0) ∨ ((∀ k ∈ L, ¬ (40 < zz s2 101 (rt k) ∨ 12 < zz s2 102 (rt k))) ∧ zz s2 56 22 = 0 ∧ zz s2 56 23 = zz s 56 23))))
theorem m_wall (hB : a_Can B) {d : Nat} (hd : 4 ≤ d) (hP : P ≤ 29000) (l : aZL) {fx m : Nat} {L : List Nat} (s : aZ) (h22 : zz s 56 22 = 0) (hL : PLm ar P rt u s) (h62 : zz s 56 62 = (m : Nat)) (h17 : zz s 56 17 = (fx : Nat)) (hfx : fx ≤ P) (hm : m ≤ 510) (hLm : L.length = m) (hl99 : ∀ i, i < m → zz s 99 i = (L.getD i 0 : Nat)) (hLP : ∀ k ∈ L, k < P) : a_W d 198 0 [.ref 56, .retAddr 0, .retAddr 0] [] (mkH B s l) (WaO P fx rt L B s l) := by
  have h16 := hL.1.1
  have flt : ∀ s2, FrWa s s2 → zz s2 56 22 = 3 → zz s2 56 23 = zz s 72 0 → (∀ v, ¬ Vl unM P (vwM s) v) → WaO P fx rt L B s l (.inl none, mkH B s2 l) := fun s2 f a b c => ⟨s2, rfl, f, Or.inl ⟨a, b, c⟩⟩
  have k56 : ∀ s2, FrWa s s2 → zz s2 56 16 = (P : Nat) ∧ zz s2 56 62 = (m : Nat) ∧ zz s2 56 17 = (fx : Nat) ∧ (∀ i, i < m → zz s2 99 i = (L.getD i 0 : Nat)) := fun s2 f => ⟨(f.2 16 (by decide) (by decide)).trans h16, (f.2 62 (by decide) (by decide)).trans h62, (f.2 17 (by decide) (by decide)).trans h17, fun i hi => (zz_of (f.1 99 (by decide) (by decide)) i).trans (hl99 i hi)⟩
  -- behind a fault
  have e155 : ∀ (s2 : aZ) (x : Nat) (u2 : Value), x ≤ 29000 → FrWa s s2 → zz s2 56 22 = 3 → zz s2 56 23 = zz s 72 0 → (∀ v, ¬ Vl unM P (vwM s) v) → a_W d 198 89 [.ref 56, iv (x : Int), u2] [] (mkH B s2 l) (WaO P fx rt L B s l) := fun s2 x u2 hx f a b c => by
    have out := w198_155 hB (d := d) (x : Int) u2 s2 l (flt s2 f a b c)
    exact w198_89 hB (by omega) _ _ s2 l ⟨⟨by omega, by omega⟩, fun _ => out, fun _ => ⟨fun _ => out, fun q => absurd q (by rw [a]; decide)⟩⟩
  have e61 : ∀ (s2 : aZ) (x : Nat), x ≤ 29000 → FrWa s s2 → zz s2 56 22 = 3 → zz s2 56 23 = zz s 72 0 → (∀ v, ¬ Vl unM P (vwM s) v) → a_W d 198 61 [.ref 56, iv (x : Int), .retAddr 0] [] (mkH B s2 l) (WaO P fx rt L B s l) := fun s2 x hx f a b c => by
    have out : a_W d 198 87 [.ref 56, iv (x : Int), .retAddr 0] [] (mkH B s2 l) (WaO P fx rt L B s l) := w198_87 hB _ s2 l (e155 s2 0 _ (by omega) f a b c)
    exact w198_61 hB (by omega) _ s2 l ⟨⟨by omega, by omega⟩, fun _ => out, fun _ => ⟨fun _ => out, fun q => absurd q (by rw [a]; decide)⟩⟩
  have e25 : ∀ (s2 : aZ) (x : Nat), x ≤ 29000 → FrWa s s2 → zz s2 56 22 = 3 → zz s2 56 23 = zz s 72 0 → (∀ v, ¬ Vl unM P (vwM s) v) → a_W d 198 25 [.ref 56, iv (x : Int), .retAddr 0] [] (mkH B s2 l) (WaO P fx rt L B s l) := fun s2 x hx f a b c => by
    have out : a_W d 198 56 [.ref 56, iv (x : Int), .retAddr 0] [] (mkH B s2 l) (WaO P fx rt L B s l) := by
      refine w198_56 hB _ s2 l ?_
      rw [(k56 s2 f).2.2.1]
      exact e61 s2 fx (by omega) f a b c
    exact w198_25 hB (by omega) _ s2 l ⟨⟨by omega, by omega⟩, fun _ => out, fun _ => ⟨fun _ => out, fun q => absurd q (by rw [a]; decide)⟩⟩
  -- the sizes
  have sizes : ∀ (r i : Nat) (s2 : aZ) (u2 : Value), i + r = m → FrWa s s2 → zz s2 56 22 = 0 → zz s2 56 23 = zz s 56 23 → WvI P rt s2 → (∀ k, fx ≤ k → k < P → zz s2 100 (rt k) = 2) → (∀ k ∈ L, zz s2 100 (rt k) = 2) → (∀ j, j < i → ¬ (40 < zz s2 101 (rt (L.getD j 0)) ∨ 12 < zz s2 102 (rt (L.getD j 0)))) → a_W d 198 89 [.ref 56, iv (i : Int), u2] [] (mkH B s2 l) (WaO P fx rt L B s l) := by
    intro r
    induction r with
    | zero =>
      intro i s2 u2 hi f a b c e1 e2 e3
      obtain ⟨q1, q2, q3, q4⟩ := k56 s2 f
      refine w198_89 hB (by omega) _ _ s2 l ⟨⟨by omega, by omega⟩, fun _ => w198_155 hB _ _ s2 l ⟨s2, rfl, f, Or.inr ⟨c, e1, e2, Or.inr ⟨fun k hk => ?_, a, b⟩⟩⟩, fun q => absurd q (by omega)⟩
      obtain ⟨j, hj, ej⟩ := List.mem_iff_getElem.mp hk
      have : L.getD j 0 = k := by rw [List.getD_eq_getElem?_getD, List.getElem?_eq_getElem hj, ej]; rfl
      rw [← this]
      exact e3 j (by omega)
    | succ r ih =>
      intro i s2 u2 hi f a b c e1 e2 e3
      obtain ⟨q1, q2, q3, q4⟩ := k56 s2 f
      have hLi : L.getD i 0 ∈ L := gd_mem L i (by omega)
      have hlt := hLP _ hLi
      have hL2 := hL.fr f.eqP (q1.trans h16.symm)
      refine w198_89 hB (by omega) _ _ s2 l ⟨⟨by omega, by omega⟩, fun q => absurd q (by omega), fun _ => ⟨fun q => absurd a q, fun _ => ⟨⟨by omega, by omega⟩, ?_⟩⟩⟩
      rw [natc, q4 i (by omega)]
      refine a_W.imp (m_last hB l (by omega) s2 hL2.1 hL2.2.1 _ hlt) ?_
      rintro _ rfl
      have hr := (hL.2.1 _ hlt).2.1
      -- too large
      have big : (40 < zz s2 101 (rt (L.getD i 0)) ∨ 12 < zz s2 102 (rt (L.getD i 0))) → a_W d 198 137 [.ref 56, iv (i : Int), iv ((rt (L.getD i 0) : Nat) : Int)] [] (mkH B s2 l) (WaO P fx rt L B s l) := fun hbig => by
        refine w198_137 hB (by omega) _ _ s2 l ⟨fun _ => w198_149 hB _ _ _ l ?_, fun q => absurd q (by rw [a]; decide)⟩
        have z22 : zz (zu (zu s2 56 22 8) 56 23 (zz s2 72 0)) 56 22 = 8 := by rw [zz_ne _ _ _ _ _ _ (by omega)]; exact zz_same _ _ _ (by decide)
        have z23 : zz (zu (zu s2 56 22 8) 56 23 (zz s2 72 0)) 56 23 = zz s 72 0 := (zz_same _ _ _ (inR_zz _ _ _)).trans (zz_of (f.1 72 (by decide) (by decide)) 0)
        have z0 : ∀ c j, (c ≠ 56 ∨ (j ≠ 22 ∧ j ≠ 23)) → zz (zu (zu s2 56 22 8) 56 23 (zz s2 72 0)) c j = zz s2 c j := fun c j h => by rw [zz_ne _ _ _ _ _ _ (by omega), zz_ne _ _ _ _ _ _ (by omega)]
        have f3 : FrWa s2 (zu (zu s2 56 22 8) 56 23 (zz s2 72 0)) := ⟨fun c h1 _ => by rw [zu_ne _ _ _ _ _ h1, zu_ne _ _ _ _ _ h1], fun j h1 h2 => z0 56 j (Or.inr ⟨h1, h2⟩)⟩
        generalize zu (zu s2 56 22 8) 56 23 (zz s2 72 0) = s3 at *
        have out : WaO P fx rt L B s l (.inl none, mkH B s3 l) := by
          refine ⟨s3, rfl, f.tr f3, Or.inr ⟨c.k (fun c j h => z0 c j (Or.inl (by omega))), fun k h1 h2 => ?_, fun k hk => ?_, Or.inl ⟨⟨_, hLi, ?_⟩, z22, z23⟩⟩⟩
          · rw [z0 100 _ (Or.inl (by decide))]; exact e1 k h1 h2
          · rw [z0 100 _ (Or.inl (by decide))]; exact e2 k hk
          · rw [z0 101 _ (Or.inl (by decide)), z0 102 _ (Or.inl (by decide))]; exact hbig
        exact w198_89 hB (by omega) _ _ s3 l ⟨⟨by omega, by omega⟩, fun _ => w198_155 hB _ _ s3 l out, fun _ => ⟨fun _ => w198_155 hB _ _ s3 l out, fun q => absurd q (by rw [z22]; decide)⟩⟩
      refine ⟨_, s2, l, rfl, ⟨by omega, by omega⟩, ?_⟩
      rw [natc]
      refine ⟨fun c1 => big (Or.inl c1), fun c1 => ⟨fun c2 => w198_149 hB _ _ s2 l ?_, fun c2 => big (Or.inr c2)⟩⟩
      rw [show (i : Int) + 1 = ((i + 1 : Nat) : Int) by omega]
      refine ih (i + 1) s2 _ (by omega) f a b c e1 e2 (fun j hj => ?_)
      by_cases e : j = i
      · rw [e]; omega
      · exact e3 j (by omega)
  -- all new nodes
  have nodes : ∀ (r k : Nat) (s2 : aZ), k + r = P → fx ≤ k → FrWa s s2 → zz s2 56 22 = 0 → zz s2 56 23 = zz s 56 23 → WvI P rt s2 → (∀ k, k < P → zz s2 100 k ≠ 1) → (∀ j, fx ≤ j → j < k → zz s2 100 (rt j) = 2) → (∀ k ∈ L, zz s2 100 (rt k) = 2) → a_W d 198 61 [.ref 56, iv (k : Int), .retAddr 0] [] (mkH B s2 l) (WaO P fx rt L B s l) := by
    intro r
    induction r with
    | zero =>
      intro k s2 hk hf f a b c n1 e1 e2
      obtain ⟨q1, q2, q3, q4⟩ := k56 s2 f
      exact w198_61 hB (by omega) _ s2 l ⟨⟨by omega, by omega⟩, fun _ => w198_87 hB _ s2 l (sizes m 0 s2 _ (by omega) f a b c (fun j h1 h2 => e1 j h1 (by omega)) e2 (fun j hj => absurd hj (Nat.not_lt_zero _))), fun q => absurd q (by omega)⟩
    | succ r ih =>
      intro k s2 hk hf f a b c n1 e1 e2
      obtain ⟨q1, q2, q3, q4⟩ := k56 s2 f
      have hL2 := hL.fr f.eqP (q1.trans h16.symm)
      refine w198_61 hB (by omega) _ s2 l ⟨⟨by omega, by omega⟩, fun q => absurd q (by omega), fun _ => ⟨fun q => absurd a q, fun _ => a_W.imp (m_weigh hB (by omega) hP l k (by omega) s2 a hL2 c n1) ?_⟩⟩
      rintro _ ⟨s3, rfl, f3, h3⟩
      refine ⟨s3, l, rfl, ?_⟩
      rw [show (k : Int) + 1 = ((k + 1 : Nat) : Int) by omega]
      rcases h3 with ⟨g1, g2, g3⟩ | ⟨g1, g2, g3, g4, g5⟩
      · rw [f.eqP.vw] at g3
        exact e61 s3 (k + 1) (by omega) (f.tr f3.wa) g1 (g2.trans (zz_of (f.1 72 (by decide) (by decide)) 0)) g3
      · refine ih (k + 1) s3 (by omega) (by omega) (f.tr f3.wa) g1 (g2.trans b) g3 g4 (fun j h1 h2 => ?_) (fun j hj => (f3.2.2 _ (e2 j hj)).1)
        by_cases e : j = k
        · rw [e]; exact g5 _ List.mem_cons_self
        · exact (f3.2.2 _ (e1 j h1 (by omega))).1
  -- the term's types
  have made : ∀ (r i : Nat) (s2 : aZ), i + r = m → FrWa s s2 → zz s2 56 22 = 0 → zz s2 56 23 = zz s 56 23 → WvI P rt s2 → (∀ k, k < P → zz s2 100 k ≠ 1) → (∀ j, j < i → zz s2 100 (rt (L.getD j 0)) = 2) → a_W d 198 25 [.ref 56, iv (i : Int), .retAddr 0] [] (mkH B s2 l) (WaO P fx rt L B s l) := by
    intro r
    induction r with
    | zero =>
      intro i s2 hi f a b c n1 e1
      obtain ⟨q1, q2, q3, q4⟩ := k56 s2 f
      refine w198_25 hB (by omega) _ s2 l ⟨⟨by omega, by omega⟩, fun _ => w198_56 hB _ s2 l ?_, fun q => absurd q (by omega)⟩
      rw [q3]
      refine nodes (P - fx) fx s2 (by omega) (Nat.le_refl _) f a b c n1 (fun j h1 h2 => absurd h2 (by omega)) (fun k hk => ?_)
      obtain ⟨j, hj, ej⟩ := List.mem_iff_getElem.mp hk
      have : L.getD j 0 = k := by rw [List.getD_eq_getElem?_getD, List.getElem?_eq_getElem hj, ej]; rfl
      rw [← this]
      exact e1 j (by omega)
    | succ r ih =>
      intro i s2 hi f a b c n1 e1
      obtain ⟨q1, q2, q3, q4⟩ := k56 s2 f
      have hLi : L.getD i 0 ∈ L := gd_mem L i (by omega)
      have hlt := hLP _ hLi
      have hL2 := hL.fr f.eqP (q1.trans h16.symm)
      refine w198_25 hB (by omega) _ s2 l ⟨⟨by omega, by omega⟩, fun q => absurd q (by omega), fun _ => ⟨fun q => absurd a q, fun _ => ⟨⟨by omega, by omega⟩, ?_⟩⟩⟩
      rw [natc, q4 i (by omega)]
      refine a_W.imp (m_weigh hB (by omega) hP l _ hlt s2 a hL2 c n1) ?_
      rintro _ ⟨s3, rfl, f3, h3⟩
      refine ⟨s3, l, rfl, ?_⟩
      rw [show (i : Int) + 1 = ((i + 1 : Nat) : Int) by omega]
      rcases h3 with ⟨g1, g2, g3⟩ | ⟨g1, g2, g3, g4, g5⟩
      · rw [f.eqP.vw] at g3
        exact e25 s3 (i + 1) (by omega) (f.tr f3.wa) g1 (g2.trans (zz_of (f.1 72 (by decide) (by decide)) 0)) g3
      · refine ih (i + 1) s3 (by omega) (f.tr f3.wa) g1 (g2.trans b) g3 g4 (fun j hj => ?_)
        by_cases e : j = i
        · rw [e]; exact g5 _ List.mem_cons_self
        · exact (f3.2.2 _ (e1 j (by omega))).1
  -- nothing is weighed
  have clear : ∀ (r k : Nat) (s2 : aZ), k + r = P → FrWa s s2 → zz s2 56 22 = 0 → zz s2 56 23 = zz s 56 23 → (∀ j, j < k → zz s2 100 j = 0) → a_W d 198 2 [.ref 56, iv (k : Int), .retAddr 0] [] (mkH B s2 l) (WaO P fx rt L B s l) := by
    intro r
    induction r with
    | zero =>
      intro k s2 hk f a b e1
      obtain ⟨q1, q2, q3, q4⟩ := k56 s2 f
      refine w198_2 hB _ s2 l ⟨⟨by omega, by omega⟩, fun _ => made m 0 s2 (by omega) f a b ⟨fun j hj => by rw [e1 j (by omega)]; decide, fun j hj h2 => ?_⟩ (fun j hj => by rw [e1 j (by omega)]; decide) (fun j hj => absurd hj (Nat.not_lt_zero _)), fun q => absurd q (by omega)⟩
      rw [e1 j (by omega)] at h2
      exact absurd h2 (by decide)
    | succ r ih =>
      intro k s2 hk f a b e1
      obtain ⟨q1, q2, q3, q4⟩ := k56 s2 f
      refine w198_2 hB _ s2 l ⟨⟨by omega, by omega⟩, fun q => absurd q (by omega), fun _ => ⟨⟨by omega, by omega⟩, ?_⟩⟩
      rw [natc, show (k : Int) + 1 = ((k + 1 : Nat) : Int) by omega]
      have z0 : ∀ c j, (c ≠ 100 ∨ j ≠ k) → zz (zu s2 100 k 0) c j = zz s2 c j := fun c j h => zz_ne _ _ _ _ _ _ (by omega)
      refine ih (k + 1) _ (by omega) (f.tr ⟨fun c h1 h2 => zu_ne _ _ _ _ _ (by omega), fun j _ _ => z0 56 j (Or.inl (by decide))⟩) ((z0 56 22 (Or.inl (by decide))).trans a) ((z0 56 23 (Or.inl (by decide))).trans b) (fun j hj => ?_)
      by_cases e : j = k
      · rw [e]; exact zz_same _ _ _ (by decide)
      · rw [z0 100 j (Or.inr e)]; exact e1 j (by omega)
  exact w198_0 hB s l (clear P 0 s (by omega) ⟨fun _ _ _ => rfl, fun _ _ _ => rfl⟩ h22 rfl (fun j hj => absurd hj (Nat.not_lt_zero _)))
end
/-! NO CIRCLES, heights and sizes -/
section
variable {ta : List Int} {P fx : Nat} {rt u : Nat → Nat} {s : aZ}
/-- nodes of constants' types that are one have one value -/
theorem fx_one (hE : PEm (arT ta) P s rt u) (hfx : fx ≤ P) (hF : MFx ta fx s) {v0 : Nat → aT} (hv0 : ∀ k, k < fx → v0 k = .branch (enc (zz s 64 k)) (ptT v0 (zz s 65 k)) (ptT v0 (zz s 66 k))) : ∀ (N i j : Nat), i + j ≤ N → i < fx → j < fx → rt i = rt j → v0 i = v0 j := by
  intro N
  induction N with
  | zero =>
    intro i j h hi hj _
    rw [show i = 0 by omega, show j = 0 by omega]
  | succ N ih =>
    intro i j h hi hj e
    obtain ⟨a1, a2, a3, -⟩ := hF i hi
    obtain ⟨b1, b2, b3, -⟩ := hF j hj
    obtain ⟨c1, c2, c3⟩ := hE.2.2.2 i (by omega) a3.2.2
    obtain ⟨d1, d2, d3⟩ := hE.2.2.2 j (by omega) b3.2.2
    have q64 : zz s 64 i = zz s 64 j := by
      have x1 : zz s 64 (rt i) = zz s 64 i := c1
      have x2 : zz s 64 (rt j) = zz s 64 j := d1
      rw [← x1, ← x2, e]
    have pt : ∀ x y : Int, -1 ≤ x → x < i → -1 ≤ y → y < j → prt rt x = prt rt y → ptT v0 x = ptT v0 y := fun x y h1 h2 h3 h4 h5 => by
      unfold prt at h5
      by_cases cx : x < 0
      · by_cases cy : y < 0
        · rw [ptT_n _ _ cx, ptT_n _ _ cy]
        · rw [if_pos cx, if_neg cy] at h5; omega
      · by_cases cy : y < 0
        · rw [if_neg cx, if_pos cy] at h5; omega
        · rw [if_neg cx, if_neg cy] at h5
          rw [ptT_p _ _ (by omega), ptT_p _ _ (by omega)]
          exact ih x.toNat y.toNat (by omega) (by omega) (by omega) (by omega)
    have p1 : prt rt (zz s 65 i) = prt rt (zz s 65 j) := by
      have x1 : prt rt (zz s 65 i) = prt rt (zz s 65 (rt i)) := c2
      have x2 : prt rt (zz s 65 j) = prt rt (zz s 65 (rt j)) := d2
      rw [x1, x2, e]
    have p2 : prt rt (zz s 66 i) = prt rt (zz s 66 j) := by
      have x1 : prt rt (zz s 66 i) = prt rt (zz s 66 (rt i)) := c3
      have x2 : prt rt (zz s 66 j) = prt rt (zz s 66 (rt j)) := d3
      rw [x1, x2, e]
    rw [hv0 i hi, hv0 j hj, q64, pt _ _ a1.1 a1.2 b1.1 b1.2 p1, pt _ _ a2.1 a2.2 b2.1 b2.2 p2]
/-- the rank of a node -/
def rkM (s : aZ) (v0 : Nat → aT) (k : Nat) : Nat := if zz s 100 k = 2 then (zz s 102 k).toNat else 100000 + hgT (v0 k)
theorem m_acp (hE : PEm (arT ta) P s rt u) (hP : P ≤ 29000) (hfx : fx ≤ P) (hF : MFx ta fx s) (hW : WvI P rt s) (hall : ∀ k, fx ≤ k → k < P → zz s 100 (rt k) = 2) {v0 : Nat → aT} (hv0 : ∀ k, k < fx → v0 k = .branch (enc (zz s 64 k)) (ptT v0 (zz s 65 k)) (ptT v0 (zz s 66 k))) : AcP unM P (vwM s) rt (rkM s v0) := by
  intro r hr h1 _
  have hU := hE.2.1
  have hrr : rt r = r := ((hU r hr).2.2.2.2.1 h1).1
  have hb := hE.1.2 r hr
  have key : ∀ x : Int, (x = zz s 65 r ∨ x = zz s 66 r) → 0 ≤ x → rkM s v0 (rt x.toNat) < rkM s v0 r := fun x hx h0 => by
    have hxP : x < P := by rcases hx with rfl | rfl <;> omega
    obtain ⟨q1, q2⟩ := rt_rt hU (show x.toNat < P by omega)
    have ep : prt rt x = ((rt x.toNat : Nat) : Int) := by unfold prt; rw [if_neg (by omega)]
    by_cases c : zz s 100 r = 2
    · obtain ⟨-, w2, -, w4, -, w6, w7⟩ := hW.2 r hr c
      have hx2 : zz s 100 (rt x.toNat) = 2 := by
        have := w2 ((rt x.toNat : Nat) : Int) (hx.elim (fun h => Or.inl (by rw [← h]; exact ep.symm)) (fun h => Or.inr (by rw [← h]; exact ep.symm))) (by omega)
        rw [natc] at this
        exact this
      obtain ⟨-, -, -, -, -, y6, y7⟩ := hW.2 _ q1 hx2
      have eh : hvM s (prt rt x) = zz s 102 (rt x.toNat) := by rw [ep]; unfold hvM; rw [if_neg (by omega), natc]
      unfold rkM
      rw [if_pos c, if_pos hx2]
      rcases hx with rfl | rfl <;> omega
    · have hrf : r < fx := Decidable.byContradiction (fun q => c (by have := hall r (by omega) hr; rw [hrr] at this; exact this))
      obtain ⟨a1, a2, a3, -⟩ := hF r hrf
      have hxr : x < r := hx.elim (fun h => by rw [h]; exact a1.2) (fun h => by rw [h]; exact a2.2)
      unfold rkM
      rw [if_neg c]
      by_cases c2 : zz s 100 (rt x.toNat) = 2
      · rw [if_pos c2]
        obtain ⟨-, -, -, -, -, y6, y7⟩ := hW.2 _ q1 c2
        omega
      · rw [if_neg c2]
        have hff : rt x.toNat < fx := Decidable.byContradiction (fun q => c2 (by have := hall (rt x.toNat) (by omega) q1; rw [q2] at this; exact this))
        have e := fx_one hE hfx hF hv0 _ (rt x.toNat) x.toNat (Nat.le_refl _) hff (by omega) q2
        rw [e, hv0 r hrf]
        have : hgT (ptT v0 x) = hgT (v0 x.toNat) := by rw [ptT_p _ _ h0]
        rcases hx with rfl | rfl
        · show 100000 + _ < 100000 + (1 + max (hgT (ptT v0 (zz s 65 r))) _)
          omega
        · show 100000 + _ < 100000 + (1 + max _ (hgT (ptT v0 (zz s 66 r))))
          omega
  exact ⟨fun c => key _ (Or.inl rfl) c, fun c => key _ (Or.inr rfl) c⟩
/-- heights and sizes are those of what nodes resolve to -/
theorem m_szh {ar : Int → Nat} (hE : PEm ar P s rt u) (hW : WvI P rt s) : ∀ (N : Nat) (x : Int), -1 ≤ x → x < P → (0 ≤ x → zz s 100 (rt x.toNat) = 2 ∧ (zz s 102 (rt x.toNat)).toNat < N) → hvM s (prt rt x) = (hgT (rsT unM (vwM s) rt N x) : Nat) ∧ wvM s (prt rt x) = min ((szT (rsT unM (vwM s) rt N x) : Nat) : Int) 100000 := by
  have hU := hE.2.1
  have pn : ∀ x : Int, x < 0 → prt rt x = -1 := fun x h => if_pos h
  intro N
  induction N with
  | zero =>
    intro x h1 h2 h3
    have hx : x < 0 := Decidable.byContradiction (fun c => by have := (h3 (by omega)).2; omega)
    rw [pn x hx]
    exact ⟨rfl, rfl⟩
  | succ N ih =>
    intro x h1 h2 h3
    by_cases hx : x < 0
    · rw [rsT_n _ _ _ _ _ hx, pn x hx]
      exact ⟨rfl, rfl⟩
    · obtain ⟨q1, q2⟩ := rt_rt hU (show x.toNat < P by omega)
      obtain ⟨h3, h4⟩ := h3 (by omega)
      obtain ⟨-, w2, w3, w4, w5, w6, w7⟩ := hW.2 _ q1 h3
      have ep : prt rt x = ((rt x.toNat : Nat) : Int) := if_neg hx
      have g1 : hvM s (prt rt x) = zz s 102 (rt x.toNat) := by rw [ep]; unfold hvM; rw [if_neg (by omega), natc]
      have g2 : wvM s (prt rt x) = zz s 101 (rt x.toNat) := by rw [ep]; unfold wvM; rw [if_neg (by omega), natc]
      have hPr := hE.1.2 _ q1
      rw [g1, g2, w3, w4, rsT_s, if_neg hx]
      have e65 : (vwM s).2.2.1 (rt x.toNat) = zz s 65 (rt x.toNat) := rfl
      have e66 : (vwM s).2.2.2 (rt x.toNat) = zz s 66 (rt x.toNat) := rfl
      by_cases hu : (vwM s).2.1 (rt x.toNat) = unM
      · rw [if_pos hu]
        obtain ⟨u1, u2⟩ := (hE.2.2.1.2 _ q1).2 hu
        rw [e65] at u1
        rw [e66] at u2
        rw [pn _ u1, pn _ u2]
        exact ⟨rfl, rfl⟩
      · rw [if_neg hu, e65, e66]
        have lt : ∀ y : Int, (y = zz s 65 (rt x.toNat) ∨ y = zz s 66 (rt x.toNat)) → 0 ≤ y → zz s 100 (rt y.toNat) = 2 ∧ (zz s 102 (rt y.toNat)).toNat < N := fun y hy h0 => by
          have ey : prt rt y = ((rt y.toNat : Nat) : Int) := if_neg (by omega)
          have hy2 := w2 ((rt y.toNat : Nat) : Int) (hy.elim (fun h => Or.inl (by rw [← h]; exact ey.symm)) (fun h => Or.inr (by rw [← h]; exact ey.symm))) (by omega)
          rw [natc] at hy2
          have eh : hvM s (prt rt y) = zz s 102 (rt y.toNat) := by rw [ey]; unfold hvM; rw [if_neg (by omega), natc]
          have hyP : y < P := by rcases hy with rfl | rfl <;> omega
          obtain ⟨-, -, -, -, -, y6, -⟩ := hW.2 _ (rt_rt hU (show y.toNat < P by omega)).1 hy2
          refine ⟨hy2, ?_⟩
          rcases hy with rfl | rfl <;> omega
        obtain ⟨b1, b2⟩ := ih _ hPr.1.1 hPr.1.2 (fun c => lt _ (Or.inl rfl) c)
        obtain ⟨b3, b4⟩ := ih _ hPr.2.1.1 hPr.2.1.2 (fun c => lt _ (Or.inr rfl) c)
        rw [b1, b2, b3, b4]
        refine ⟨?_, ?_⟩
        · show _ = ((1 + max _ _ : Nat) : Int)
          omega
        · show _ = min ((1 + (_ + _) : Nat) : Int) _
          omega
end
