/-! THE REFERENCE JOINS TWO TYPES -/
section
variable {B : aH} {P : Nat} {ar : Int → Nat}
/-- a closed pool -/
def PEm (ar : Int → Nat) (P : Nat) (s : aZ) (rt u : Nat → Nat) : Prop := PMr P s ∧ Uf P (vwM s) rt u ∧ CdP unM ar P (vwM s) ∧ ClP unM P (vwM s) rt
theorem m_join (hB : a_Can B) (hP : P ≤ 29000) {d : Nat} (hd : 1 ≤ d) (l : aZL) {s : aZ} {rt u : Nat → Nat} (hE : PEm ar P s rt u) (hf : zz s 56 22 = 0) (a b : Nat) (ha : a < P) (hb : b < P) : a_W d 193 0 [.ref 56, iv (a : Int), iv (b : Int), .retAddr 0, .retAddr 0, .retAddr 0, .retAddr 0] [] (mkH B s l) (fun q => ∃ s2, q = (.inl none, mkH B s2 l) ∧ FrJm s s2 ∧ ((zz s2 56 22 = 3 ∧ zz s2 56 23 = zz s 72 0 ∧ ∀ v, Vl unM P (vwM s) v → v a ≠ v b) ∨ (zz s2 56 22 = 0 ∧ zz s2 56 23 = zz s 56 23 ∧ ∃ rt2 u2, PEm ar P s2 rt2 u2 ∧ ∀ v, Vl unM P (vwM s2) v ↔ (Vl unM P (vwM s) v ∧ v a = v b)))) := by
  obtain ⟨h1, h2, h3, h4⟩ := hE
  refine w193_0 hB _ _ s l ?_
  have hv : vwM (zu (zu s 92 0 (a : Int)) 93 0 (b : Int)) = vwM s := by rw [vwM_w _ _ _ _ (by omega), vwM_w _ _ _ _ (by omega)]
  have hn : nR P (vwM s) ≤ P := by
    have := List.countP_le_length (p := fun k => decide ((vwM s).1 k = k)) (l := List.range P)
    rw [List.length_range] at this
    exact this
  have fr : FrJm s (zu (zu s 92 0 (a : Int)) 93 0 (b : Int)) := (FrJm.w s 92 0 _ (by omega)).tr (FrJm.w _ 93 0 _ (by omega))
  have hJ : JM ar P (zu (zu s 92 0 (a : Int)) 93 0 (b : Int)) rt u [((a : Int), (b : Int))] := by
    refine ⟨(h1.w 92 _ _ (by omega)).w 93 _ _ (by omega), by rw [hv]; exact h2, by rw [hv]; exact h3, by rw [hv]; exact h4.pcp h2 h3.1 _, fun q hq => ?_, fun i hi => ?_⟩
    · rw [List.mem_singleton.mp hq]
      exact ⟨⟨by omega, by show (a : Int) < P; omega⟩, ⟨by omega, by show (b : Int) < P; omega⟩⟩
    · have : i = 0 := by have : i < 1 := hi; omega
      subst this
      refine ⟨?_, zz_same _ _ _ ⟨by omega, by omega⟩⟩
      show zz (zu (zu s 92 0 (a : Int)) 93 0 (b : Int)) 92 0 = (a : Int)
      rw [zz_ne _ _ _ _ _ _ (by omega)]
      exact zz_same _ _ _ ⟨by omega, by omega⟩
  have h22 : zz (zu (zu s 92 0 (a : Int)) 93 0 (b : Int)) 56 22 = 0 := by rw [zz_ne _ _ _ _ _ _ (by omega), zz_ne _ _ _ _ _ _ (by omega)]; exact hf
  have h23 : zz (zu (zu s 92 0 (a : Int)) 93 0 (b : Int)) 56 23 = zz s 56 23 := by rw [zz_ne _ _ _ _ _ _ (by omega), zz_ne _ _ _ _ _ _ (by omega)]
  have h72 : zz (zu (zu s 92 0 (a : Int)) 93 0 (b : Int)) 72 0 = zz s 72 0 := by rw [zz_ne _ _ _ _ _ _ (by omega), zz_ne _ _ _ _ _ _ (by omega)]
  have hvp : ∀ v, Vlp unM P (vwM s) [((a : Int), (b : Int))] v ↔ (Vl unM P (vwM s) v ∧ v a = v b) := fun v => by
    have e : ptT v (a : Int) = v a ∧ ptT v (b : Int) = v b := ⟨by rw [ptT_p _ _ (by omega), natc], by rw [ptT_p _ _ (by omega), natc]⟩
    refine ⟨fun h => ⟨h.1, ?_⟩, fun h => ⟨h.1, fun q hq => ?_⟩⟩
    · have := h.2 _ List.mem_cons_self
      rw [← e.1, ← e.2]
      exact this
    · rw [List.mem_singleton.mp hq]
      show ptT v (a : Int) = ptT v (b : Int)
      rw [e.1, e.2]
      exact h.2
  generalize (zu (zu s 92 0 (a : Int)) 93 0 (b : Int)) = s1 at *
  have key := m_jloop hB hP hd l (a : Int) (b : Int) (2 * nR P (vwM s1) + 1) [((a : Int), (b : Int))] s1 rt u (.retAddr 0) (.retAddr 0) (.retAddr 0) (Nat.le_refl _) (by rw [hv]; omega) h22 hJ
  refine a_W.imp key ?_
  rintro _ ⟨s2, rfl, f2, g2⟩
  refine ⟨s2, rfl, fr.tr f2, ?_⟩
  rw [hv] at g2
  rcases g2 with ⟨p1, p2, p3⟩ | ⟨p1, p2, rt2, u2, p3, p4, p5, p6, p7⟩
  · exact Or.inl ⟨p1, p2.trans h72, fun v h e => p3 v ((hvp v).mpr ⟨h, e⟩)⟩
  · exact Or.inr ⟨p1, p2.trans h23, rt2, u2, ⟨p3, p4, p5, p6⟩, fun v => (p7 v).trans (hvp v)⟩
end
