/-! THE REFERENCE MAKES LEAVES -/
/-- the types of the constants that it knows -/
def CtO (ct : List aT) : Prop := ct.getD 0 cNo = c0F c0A (c0F c0A c0B) ∧ ct.getD 6 cNo = c0F c0B (c0F c0B c0B) ∧ ct.getD 10 cNo = c0N ∧ ct.getD 11 cNo = c0F c0N c0N
section
variable {t : Nat → Int} {n : Nat} {ns tn : List (List Int)} {ta : List Int} {cn : List (List Int)} {ct : List aT} {fx jj : Nat} {B : aH}
/-- the tables while a term is made -/
def MkC (t : Nat → Int) (n : Nat) (ns tn : List (List Int)) (ta : List Int) (cn : List (List Int)) (ct : List aT) (fx jj : Nat) (s : aZ) (l : aZL) : Prop := MCo cn ct fx s l ∧ MTy tn ta s l ∧ ∀ i, tkN t n jj i → MTk t n ns i s l
theorem MkC.fr {P m k : Nat} {s s2 : aZ} {l : aZL} (h : MkC t n ns tn ta cn ct fx jj s l) (f : FrMk P m k s s2) (hfx : fx ≤ P) : MkC t n ns tn ta cn ct fx jj s2 l := by
  refine ⟨h.1.fr (f.2.1 3 (by decide) (by decide) (by decide) (by decide) (by decide)) (f.2.1 17 (by decide) (by decide) (by decide) (by decide) (by decide)) (f.1 59 (by decide) (by decide) (by decide)) (f.1 60 (by decide) (by decide) (by decide)) (fun k h1 h2 j hj => f.2.2.1 k h1 h2 j (by omega)) rfl, h.2.1.fr (f.2.1 4 (by decide) (by decide) (by decide) (by decide) (by decide)) (f.1 62 (by decide) (by decide) (by decide)) rfl, fun i hi => ?_⟩
  obtain ⟨t1, t2, t3, t4, t5, t6⟩ := h.2.2 i hi
  exact ⟨t1, (zz_of (f.1 71 (by decide) (by decide) (by decide)) i).trans t2, (zz_of (f.1 72 (by decide) (by decide) (by decide)) i).trans t3, fun q => (zz_of (f.1 73 (by decide) (by decide) (by decide)) i).trans (t4 q), fun q => (zz_of (f.1 73 (by decide) (by decide) (by decide)) i).trans (t5 q), t6⟩
theorem FrMk.ph {P m k : Nat} {s s2 : aZ} (f : FrMk P m k s s2) {v : Nat → Int} {W Q : Nat} {T : aT} {p : Int} (h : PH s v W Q T p) : PH s2 v W Q T p := PH.keep (fun k j h1 h2 _ => zz_of (f.1 k (by omega) (by omega) (by omega)) j) (fun k h1 h2 j _ => zz_of (f.1 k (by omega) (by omega) (by omega)) j) (Nat.le_refl _) (Nat.le_refl _) T p h
/-- the types of the variables, the innermost first -/
def MEt (s : aZ) : List Nat → Nat → Prop
  | [], k => k = 0
  | _ :: _, 0 => False
  | r :: ρ, k + 1 => zz s 97 k = (r : Nat) ∧ MEt s ρ k
theorem MEt.len {s : aZ} : ∀ (ρ : List Nat) (k : Nat), MEt s ρ k → ρ.length = k := by
  intro ρ
  induction ρ with
  | nil => intro k h; exact h.symm
  | cons e ρ ih =>
    intro k h
    cases k with
    | zero => exact absurd h (by intro h; exact h)
    | succ k => rw [List.length_cons, ih k h.2]
theorem MEt.keep {s s2 : aZ} : ∀ (ρ : List Nat) (k : Nat), (∀ i, i < k → zz s2 97 i = zz s 97 i) → MEt s ρ k → MEt s2 ρ k := by
  intro ρ
  induction ρ with
  | nil => intro k _ h; exact h
  | cons e ρ ih =>
    intro k he h
    cases k with
    | zero => exact h
    | succ k => exact ⟨(he k (Nat.lt_succ_self _)).trans h.1, ih k (fun i hi => he i (by omega)) h.2⟩
theorem MEt.get {s : aZ} : ∀ (ρ : List Nat) (k e : Nat), MEt s ρ k → e < ρ.length → zz s 97 (k - 1 - e) = (ρ.getD e 0 : Nat) := by
  intro ρ
  induction ρ with
  | nil => intro k e _ h; exact absurd h (Nat.not_lt_zero _)
  | cons r ρ ih =>
    intro k e h he
    cases k with
    | zero => exact absurd h (by intro h; exact h)
    | succ k =>
      cases e with
      | zero => exact h.1
      | succ e =>
        have := ih k e h.2 (by rw [List.length_cons] at he; omega)
        rw [show k + 1 - 1 - (e + 1) = k - 1 - e by omega]
        exact this
/-- what stands before a term is made -/
def MkI (t : Nat → Int) (n : Nat) (ns tn : List (List Int)) (ta : List Int) (cn : List (List Int)) (ct : List aT) (fx jj : Nat) (es ρ : List Nat) (k P m : Nat) (s : aZ) (l : aZL) : Prop := MkC t n ns tn ta cn ct fx jj s l ∧ MEs t n jj s es k ∧ MEt s ρ k ∧ (∀ r ∈ ρ, r < P) ∧ zz s 56 59 = (k : Nat) ∧ zz s 56 16 = (P : Nat) ∧ zz s 56 62 = (m : Nat) ∧ fx ≤ P ∧ 0 < P
theorem MkI.fr {es ρ : List Nat} {k P m P2 m2 : Nat} {s s2 : aZ} {l : aZL} (h : MkI t n ns tn ta cn ct fx jj es ρ k P m s l) (f : FrMk P m k s s2) (h16 : zz s2 56 16 = (P2 : Nat)) (h62 : zz s2 56 62 = (m2 : Nat)) (hP : P ≤ P2) : MkI t n ns tn ta cn ct fx jj es ρ k P2 m2 s2 l := by
  obtain ⟨a1, a2, a3, a4, a5, a6, a7, a8, a9⟩ := h
  exact ⟨a1.fr f a8, MEs.keep es k (fun i hi => (f.2.2.2.1 i hi).1) a2, MEt.keep ρ k (fun i hi => (f.2.2.2.1 i hi).2) a3, fun r hr => Nat.lt_of_lt_of_le (a4 r hr) hP, (f.2.1 59 (by decide) (by decide) (by decide) (by decide) (by decide)).trans a5, h16, h62, by omega, by omega⟩
/-- a leaf with its type r -/
theorem MkO.leaf {ρ : List Nat} {q : Nat × Nat} {C P m k r P2 : Nat} {s s2 : aZ} {l : aZL} (hq : q.1 ≠ 2) (f : FrMk P m k s s2) (h16 : zz s2 56 16 = (P2 : Nat)) (hP : P ≤ P2) (hC : P2 ≤ P + C) (hr : r < P2) (hm : m < 60000) (hs : inR (syL q)) (h60 : P2 ≤ 60000) (h22 : zz s2 56 22 = 0) (h23 : zz s2 56 23 = zz s 56 23) (hV : MVl t n ns tn ta ct ρ (.leaf q) [r] P s P2 s2) : MkO t n ns tn ta ct B ρ (.leaf q) C P m k s l (.inl (some (iv (r : Int))), mkH B (mdM s2 m (syL q) (r : Int)) l) := by
  obtain ⟨a1, a2, a3⟩ := mdM_at s2 m (syL q) (r : Int) hm hs ⟨by omega, by omega⟩
  have fm := mdM_fr s2 P m k (syL q) (r : Int)
  have ne := fun c j h => mdM_ne s2 m (syL q) (r : Int) c j h
  have w1 : tmW (.leaf q) = 1 := (lf_w q hq).1
  generalize mdM s2 m (syL q) (r : Int) = s3 at *
  refine ⟨s3, r, P2, m + 1, rfl, f.tr fm (Nat.le_refl _) (Nat.le_refl _) (Nat.le_refl _), ⟨(ne 56 16 (by omega)).trans h16, hP, hC⟩, ⟨a3, by omega, by omega⟩, Or.inr ⟨(ne 56 22 (by omega)).trans h22, (ne 56 23 (by omega)).trans h23, rfl, by omega, [r], RwM.one a1 a2, rfl, w1.symm, fun k hk => by rw [List.mem_singleton.mp hk]; exact hr, hV.vw (fun c h1 h2 j => ne c j (by omega)) (ne 56 16 (by omega))⟩⟩
/-- a constant is used -/
theorem m_con (hB : a_Can B) {d : Nat} (hd : 43 ≤ d) (hN : tn.length ≤ 40) (hCt : ∀ c, c < cn.length → wfC tn.length ta (ct.getD c cNo) ∧ 0 < (pre (ct.getD c cNo)).length ∧ (pre (ct.getD c cNo)).length ≤ 40) {es ρ : List Nat} {k P m : Nat} {s : aZ} {l : aZL} (hI : MkI t n ns tn ta cn ct fx jj es ρ k P m s l) (hE : ∃ rt u, PEm (arT ta) P s rt u) (h22 : zz s 56 22 = 0) (hP : P + 41 ≤ 60000) (hm : m < 520) (c : Nat) (hc : c < cn.length) : a_W d 189 0 [.ref 56, iv (c : Int)] [] (mkH B s l) (fun q => ∃ (s2 : aZ) (r : Nat), q = (.inl (some (iv (r : Int))), mkH B s2 l) ∧ FrMk P m k s s2 ∧ ∀ d2, a_W d2 188 0 [.ref 56, iv (2 * (c : Int) + 1), iv (r : Int)] [] (mkH B s2 l) (MkO t n ns tn ta ct B ρ (.leaf (5, c)) 41 P m k s l)) := by
  obtain ⟨i1, i2, i3, i4, i5, i6, i7, i8, i9⟩ := hI
  obtain ⟨rt, u, hE⟩ := hE
  obtain ⟨w1, w2, w3⟩ := hCt c hc
  have hl := i1.1.2.1
  refine a_W.imp (m_use hB hd s l i1.1 c hc w1 w2 w3 hN P i6 i8 (by omega)) ?_
  rintro _ ⟨s2, r, P2, g, rfl, f2, ⟨p1, p2, p3⟩, p4, p5, p6, p7⟩
  have fm := f2.mk m k
  refine ⟨s2, r, rfl, fm, fun d2 => a_W.imp (m_md hB s2 l m hm ((f2.2.1 62 (by decide) (by decide)).trans i7) _ _) ?_⟩
  rintro _ rfl
  obtain ⟨e1, e2, e3⟩ := use_val hE i9 p2 p1 f2 p5 p6 p7 w1
  refine MkO.leaf (q := (5, c)) (show (5 : Nat) ≠ 2 by decide) fm p1 p2 (by omega) p4 (by omega) (by rw [show syL (5, c) = 2 * (c : Int) + 1 from rfl]; exact ⟨by omega, by omega⟩) (by omega) ((f2.2.1 22 (by decide) (by decide)).trans h22) (f2.2.1 23 (by decide) (by decide)) ⟨⟨_, _, e1⟩, fun v hv => ?_, fun v R hV hT => ?_⟩
  · obtain ⟨g1, τ, g2⟩ := e2 v hv
    exact ⟨g1, (tyd_c _ _ _).mpr ⟨τ, by rw [List.map_cons, g2]; rfl⟩⟩
  · obtain ⟨τ, hR⟩ := (tyd_c _ _ _).mp hT
    obtain ⟨v2, g1, g2, g3⟩ := e3 v τ hV
    exact ⟨v2, g1, g2, by rw [hR, List.map_cons, g3]; rfl⟩
end
