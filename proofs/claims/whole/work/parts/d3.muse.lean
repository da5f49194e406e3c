/-! THE REFERENCE USES A CONSTANT -/
section
variable {B : aH} {ta : List Int} {cn : List (List Int)} {ct : List aT} {N fx : Nat}
theorem m_use (hB : a_Can B) {d : Nat} (hd : 43 ≤ d) (s : aZ) (l : aZL) (hM : MCo cn ct fx s l) (c : Nat) (hc : c < cn.length) (hw : wfC N ta (ct.getD c cNo)) (h1 : 0 < (pre (ct.getD c cNo)).length) (h40 : (pre (ct.getD c cNo)).length ≤ 40) (hN : N ≤ 40) (P : Nat) (h16 : zz s 56 16 = (P : Nat)) (hfx : fx ≤ P) (hP : P + 40 ≤ 60000) : a_W d 189 0 [.ref 56, iv (c : Int)] [] (mkH B s l) (fun q => ∃ (s2 : aZ) (r P2 g : Nat), q = (.inl (some (iv (r : Int))), mkH B s2 l) ∧ FrCp P 0 s s2 ∧ (zz s2 56 16 = (P2 : Nat) ∧ P ≤ P2 ∧ P2 ≤ P + (pre (ct.getD c cNo)).length) ∧ r < P2 ∧ GnI P P2 g s2 ∧ BkM (arT ta) P P2 s2 ∧ CV s2 P2 g (ct.getD c cNo) r) := by
  have hl := hM.2.1
  have hI := hM.2.2.2.2.2.2.2.2.2.2 c hc
  refine w189_0 hB (by omega) _ s l ⟨⟨by omega, by omega⟩, ?_⟩
  rw [natc]
  have hb : isB (ct.getD c cNo) = 1 := by
    cases e : ct.getD c cNo with
    | leaf q => rw [e] at h1; exact absurd h1 (by show ¬ 0 < 0; omega)
    | branch a x y => rfl
  have z : ∀ k j, (k ≠ 56 ∨ j ≠ 58) → zz (zu s 56 58 0) k j = zz s k j := fun k j h => zz_ne _ _ _ _ _ _ (by omega)
  have f0 : FrCp P 0 s (zu s 56 58 0) := ⟨fun k h _ _ _ => zu_ne _ _ _ _ _ h, fun j _ h => z 56 j (Or.inr h), fun k h1 h2 j _ => z k j (Or.inl (by omega)), fun j hj => absurd hj (Nat.not_lt_zero _)⟩
  have z58 : zz (zu s 56 58 0) 56 58 = ((0 : Nat) : Int) := zz_same _ _ _ (by decide)
  have z16 := (z 56 16 (Or.inr (by decide))).trans h16
  have hI2 := NI.keep (s2 := zu s 56 58 0) (fun k j g _ _ => z k j (Or.inl (by omega))) (Nat.le_refl _) (Nat.le_refl _) _ _ hI
  generalize zu s 56 58 0 = s1 at *
  refine a_W.imp (m_copy hB l (ct.getD c cNo) hw hb hN (d - 1) _ P P 0 s1 (by omega) hfx (Nat.le_refl _) (by omega) (by omega) hI2 z16 z58 (fun i hi => absurd hi (Nat.not_lt_zero _)) (BkM.rf _ _ _)) ?_
  rintro _ ⟨s2, r, P2, g2, rfl, f2, p1, p2, p3, p4, p5⟩
  have rg := CV.rng p3 _ _ p5
  obtain ⟨R, eR⟩ : ∃ R : Nat, r = R := ⟨r.toNat, by have := rg.2.2.mpr hb; omega⟩
  subst eR
  exact ⟨_, s2, l, rfl, s2, R, P2, g2, rfl, f0.tr f2 (Nat.le_refl _) (Nat.le_refl _), p1, by omega, p3, p4, p5⟩
theorem use_val {C : aT} {P P2 r g : Nat} {s s2 : aZ} {rt u : Nat → Nat} (hE : PEm (arT ta) P s rt u) (h0 : 0 < P) (hP : P ≤ P2) (h16 : zz s2 56 16 = (P2 : Nat)) (hf : FrCp P 0 s s2) (hG : GnI P P2 g s2) (hK : BkM (arT ta) P P2 s2) (hC : CV s2 P2 g C r) (hw : wfC N ta C) : PEm (arT ta) P2 s2 (rtB P rt) (uB P u) ∧ (∀ v, Vl unM P2 (vwM s2) v → Vl unM P (vwM s) v ∧ ∃ τ, v r = nsC τ C) ∧ ∀ v τ, Vl unM P (vwM s) v → ∃ v2, Vl unM P2 (vwM s2) v2 ∧ (∀ k, k < P → v2 k = v k) ∧ v2 r = nsC τ C := by
  obtain ⟨b1, b2, b3⟩ := hE.blk h0 hP h16 hf.2.2.1 hK
  have pw : ∀ v : Nat → aT, ptT v (r : Int) = v r := fun v => by rw [ptT_p _ _ (by omega), natc]
  refine ⟨b1, fun v hv => ⟨b2 v hv, fun z => ptT v (zz s2 95 (Classical.epsilon fun i => i < g ∧ zz s2 94 i = z)), ?_⟩, fun v τ hv => ?_⟩
  · rw [← pw v]
    refine cv_val hG hv (fun i hi => ?_) C r hw hC
    have hx : ∃ j, j < g ∧ zz s2 94 j = zz s2 94 i := ⟨i, hi, rfl⟩
    obtain ⟨c1, c2⟩ := Classical.epsilon_spec hx
    have : Classical.epsilon (fun j => j < g ∧ zz s2 94 j = zz s2 94 i) = i := by
      rcases Nat.lt_trichotomy (Classical.epsilon (fun j => j < g ∧ zz s2 94 j = zz s2 94 i)) i with h | h | h
      · exact absurd c2 ((hG i hi).2.2.2 _ h).1
      · exact h
      · exact absurd c2.symm ((hG _ c1).2.2.2 i h).1
    show _ = ptT v (zz s2 95 (Classical.epsilon (fun j => j < g ∧ zz s2 94 j = zz s2 94 i)))
    rw [this]
  · obtain ⟨v2, d1, d2, d3⟩ := b3 v hv (fun k => τ (zz s2 94 (Classical.epsilon fun i => i < g ∧ zz s2 95 i = (k : Nat))))
    refine ⟨v2, d1, d2, ?_⟩
    rw [← pw v2]
    refine cv_val hG d1 (fun i hi => ?_) C r hw hC
    obtain ⟨g1, g2, g3, g4⟩ := hG i hi
    obtain ⟨w, ew⟩ : ∃ w : Nat, zz s2 95 i = w := ⟨(zz s2 95 i).toNat, by omega⟩
    have hx : ∃ j, j < g ∧ zz s2 95 j = (w : Nat) := ⟨i, hi, ew⟩
    obtain ⟨c1, c2⟩ := Classical.epsilon_spec hx
    have : Classical.epsilon (fun j => j < g ∧ zz s2 95 j = (w : Nat)) = i := by
      rcases Nat.lt_trichotomy (Classical.epsilon (fun j => j < g ∧ zz s2 95 j = (w : Nat))) i with h | h | h
      · exact absurd (c2.trans ew.symm) ((hG i hi).2.2.2 _ h).2
      · exact h
      · exact absurd (ew.trans c2.symm) ((hG _ c1).2.2.2 i h).2
    rw [ew, natc] at g2
    rw [ew, ptT_p _ _ (by omega), natc, d3 w (by omega) (by omega) g2]
    show τ (zz s2 94 (Classical.epsilon (fun j => j < g ∧ zz s2 95 j = (w : Nat)))) = _
    rw [this]
end
/-! WHAT MAKING A TERM COMES TO -/
/-- what it touches -/
def FrMk (P m k : Nat) (s s2 : aZ) : Prop := (∀ c, c ≠ 56 → (c < 64 ∨ 67 < c) → (c < 92 ∨ 99 < c) → s2 c = s c) ∧ (∀ j, j ≠ 16 → j ≠ 22 → j ≠ 23 → j ≠ 58 → j ≠ 62 → zz s2 56 j = zz s 56 j) ∧ (∀ c, 64 ≤ c → c ≤ 66 → ∀ j, j < P → zz s2 c j = zz s c j) ∧ (∀ j, j < k → zz s2 96 j = zz s 96 j ∧ zz s2 97 j = zz s 97 j) ∧ ∀ j, j < m → zz s2 98 j = zz s 98 j ∧ zz s2 99 j = zz s 99 j
theorem FrMk.rf (P m k : Nat) (s : aZ) : FrMk P m k s s := ⟨fun _ _ _ _ => rfl, fun _ _ _ _ _ _ => rfl, fun _ _ _ _ _ => rfl, fun _ _ => ⟨rfl, rfl⟩, fun _ _ => ⟨rfl, rfl⟩⟩
theorem FrMk.tr {P m k P2 m2 k2 : Nat} {s1 s2 s3 : aZ} (a : FrMk P m k s1 s2) (b : FrMk P2 m2 k2 s2 s3) (hP : P ≤ P2) (hm : m ≤ m2) (hk : k ≤ k2) : FrMk P m k s1 s3 := ⟨fun c h1 h2 h3 => (b.1 c h1 h2 h3).trans (a.1 c h1 h2 h3), fun j h1 h2 h3 h4 h5 => (b.2.1 j h1 h2 h3 h4 h5).trans (a.2.1 j h1 h2 h3 h4 h5), fun c h1 h2 j hj => (b.2.2.1 c h1 h2 j (by omega)).trans (a.2.2.1 c h1 h2 j hj), fun j hj => ⟨(b.2.2.2.1 j (by omega)).1.trans (a.2.2.2.1 j hj).1, (b.2.2.2.1 j (by omega)).2.trans (a.2.2.2.1 j hj).2⟩, fun j hj => ⟨(b.2.2.2.2 j (by omega)).1.trans (a.2.2.2.2 j hj).1, (b.2.2.2.2 j (by omega)).2.trans (a.2.2.2.2 j hj).2⟩⟩
theorem FrCp.mk {P g : Nat} {s s2 : aZ} (f : FrCp P g s s2) (m k : Nat) : FrMk P m k s s2 := ⟨fun c h1 h2 h3 => f.1 c h1 h2 (by omega) (by omega), fun j h1 _ _ h4 _ => f.2.1 j h1 h4, fun c h1 h2 j hj => f.2.2.1 c h1 (by omega) j hj, fun j _ => ⟨zz_of (f.1 96 (by decide) (by decide) (by decide) (by decide)) j, zz_of (f.1 97 (by decide) (by decide) (by decide) (by decide)) j⟩, fun j _ => ⟨zz_of (f.1 98 (by decide) (by decide) (by decide) (by decide)) j, zz_of (f.1 99 (by decide) (by decide) (by decide) (by decide)) j⟩⟩
theorem FrN.mk {P : Nat} {s s2 : aZ} (f : FrN P s s2) (m k : Nat) : FrMk P m k s s2 := ⟨fun c h1 h2 h3 => f.1 c h1 h2, fun j h1 h2 h3 _ _ => f.2.1 j h1 h2 h3, fun c h1 h2 j hj => f.2.2 c h1 (by omega) j hj, fun j _ => ⟨zz_of (f.1 96 (by decide) (by decide)) j, zz_of (f.1 97 (by decide) (by decide)) j⟩, fun j _ => ⟨zz_of (f.1 98 (by decide) (by decide)) j, zz_of (f.1 99 (by decide) (by decide)) j⟩⟩
theorem FrJm.mk {s s2 : aZ} (f : FrJm s s2) (P m k : Nat) : FrMk P m k s s2 := ⟨fun c h1 h2 h3 => f.1 c h1 (by omega) (by omega) (by omega), fun j _ h2 h3 _ _ => f.2 j h2 h3, fun c h1 h2 j hj => zz_of (f.1 c (by omega) (by omega) (by omega) (by omega)) j, fun j _ => ⟨zz_of (f.1 96 (by decide) (by decide) (by decide) (by decide)) j, zz_of (f.1 97 (by decide) (by decide) (by decide) (by decide)) j⟩, fun j _ => ⟨zz_of (f.1 98 (by decide) (by decide) (by decide) (by decide)) j, zz_of (f.1 99 (by decide) (by decide) (by decide) (by decide)) j⟩⟩
/-- one more symbol -/
def mdM (s : aZ) (m : Nat) (y x : Int) : aZ := zu (zu (zu s 98 m y) 99 m x) 56 62 ((m : Int) + 1)
theorem mdM_ne (s : aZ) (m : Nat) (y x : Int) (c j : Nat) (h : ((c ≠ 98 ∧ c ≠ 99) ∨ j ≠ m) ∧ (c ≠ 56 ∨ j ≠ 62)) : zz (mdM s m y x) c j = zz s c j := by
  unfold mdM
  rw [zz_ne _ _ _ _ _ _ (by omega), zz_ne _ _ _ _ _ _ (by omega), zz_ne _ _ _ _ _ _ (by omega)]
theorem mdM_k (s : aZ) (m : Nat) (y x : Int) (c : Nat) (h : c ≠ 98 ∧ c ≠ 99 ∧ c ≠ 56) : (mdM s m y x) c = s c := by
  unfold mdM
  rw [zu_ne _ _ _ _ _ h.2.2, zu_ne _ _ _ _ _ h.2.1, zu_ne _ _ _ _ _ h.1]
theorem mdM_at (s : aZ) (m : Nat) (y x : Int) (hm : m < 60000) (hy : inR y) (hx : inR x) : zz (mdM s m y x) 98 m = y ∧ zz (mdM s m y x) 99 m = x ∧ zz (mdM s m y x) 56 62 = ((m + 1 : Nat) : Int) := by
  unfold mdM
  refine ⟨?_, ?_, ?_⟩
  · rw [zz_ne _ _ _ _ _ _ (by omega), zz_ne _ _ _ _ _ _ (by omega), zz_same _ _ _ hy]
  · rw [zz_ne _ _ _ _ _ _ (by omega), zz_same _ _ _ hx]
  · rw [zz_same _ _ _ ⟨by omega, by omega⟩]
    rfl
theorem mdM_fr (s : aZ) (P m k : Nat) (y x : Int) : FrMk P m k s (mdM s m y x) := ⟨fun c h1 _ h3 => mdM_k _ _ _ _ _ (by omega), fun j _ _ _ _ h => mdM_ne _ _ _ _ _ _ (by omega), fun c h1 h2 j _ => mdM_ne _ _ _ _ _ _ (by omega), fun j _ => ⟨mdM_ne _ _ _ _ _ _ (by omega), mdM_ne _ _ _ _ _ _ (by omega)⟩, fun j hj => ⟨mdM_ne _ _ _ _ _ _ (by omega), mdM_ne _ _ _ _ _ _ (by omega)⟩⟩
theorem m_md {B : aH} (hB : a_Can B) {d : Nat} (s : aZ) (l : aZL) (m : Nat) (hm : m < 520) (h62 : zz s 56 62 = (m : Nat)) (y x : Int) : a_W d 188 0 [.ref 56, iv y, iv x] [] (mkH B s l) (fun q => q = (.inl (some (iv x)), mkH B (mdM s m y x) l)) := by
  refine w188_0 hB _ _ s l ?_
  rw [h62, natc]
  exact ⟨⟨by omega, by omega⟩, rfl⟩
/-- the symbols and types from m on -/
def RwM (s : aZ) (m : Nat) (S : List Int) (L : List Nat) : Prop := S.length = L.length ∧ ∀ i, i < L.length → zz s 98 (m + i) = S.getD i 0 ∧ zz s 99 (m + i) = (L.getD i 0 : Nat)
theorem RwM.keep {s s2 : aZ} {m : Nat} {S : List Int} {L : List Nat} (h : RwM s m S L) (e : ∀ j, m ≤ j → j < m + L.length → zz s2 98 j = zz s 98 j ∧ zz s2 99 j = zz s 99 j) : RwM s2 m S L := ⟨h.1, fun i hi => by rw [(e (m + i) (by omega) (by omega)).1, (e (m + i) (by omega) (by omega)).2]; exact h.2 i hi⟩
theorem RwM.cons {s : aZ} {m : Nat} {S : List Int} {L : List Nat} {y : Int} {x : Nat} (h : RwM s (m + 1) S L) (h98 : zz s 98 m = y) (h99 : zz s 99 m = (x : Nat)) : RwM s m (y :: S) (x :: L) := by
  refine ⟨by rw [List.length_cons, List.length_cons, h.1], fun i hi => ?_⟩
  cases i with
  | zero => exact ⟨h98, h99⟩
  | succ i =>
    have := h.2 i (by rw [List.length_cons] at hi; omega)
    rw [show m + 1 + i = m + (i + 1) by omega] at this
    exact this
theorem gdA1 {α : Type} : ∀ (l l2 : List α) (e : α) (m : Nat), m < l.length → (l ++ l2).getD m e = l.getD m e := by
  intro l
  induction l with
  | nil => intro l2 e m h; exact absurd h (Nat.not_lt_zero _)
  | cons a l ih =>
    intro l2 e m h
    cases m with
    | zero => rfl
    | succ m => exact ih l2 e m (by rw [List.length_cons] at h; omega)
theorem gdA2 {α : Type} : ∀ (l l2 : List α) (e : α) (m : Nat), (l ++ l2).getD (l.length + m) e = l2.getD m e := by
  intro l
  induction l with
  | nil => intro l2 e m; show l2.getD (0 + m) e = _; rw [Nat.zero_add]
  | cons a l ih =>
    intro l2 e m
    rw [List.length_cons, show l.length + 1 + m = (l.length + m) + 1 by omega]
    exact ih l2 e m
theorem RwM.app {s : aZ} {m : Nat} {S1 S2 : List Int} {L1 L2 : List Nat} (h1 : RwM s m S1 L1) (h2 : RwM s (m + L1.length) S2 L2) : RwM s m (S1 ++ S2) (L1 ++ L2) := by
  refine ⟨by rw [List.length_append, List.length_append, h1.1, h2.1], fun i hi => ?_⟩
  rw [List.length_append] at hi
  by_cases e : i < L1.length
  · rw [gdA1 _ _ _ _ (by have := h1.1; omega), gdA1 _ _ _ _ e]
    exact h1.2 i e
  · obtain ⟨q, eq⟩ : ∃ q, i = L1.length + q := ⟨i - L1.length, by omega⟩
    subst eq
    have := h2.2 q (by omega)
    rw [show m + L1.length + q = m + (L1.length + q) by omega] at this
    rw [gdA2 L1, ← h1.1, gdA2 S1, h1.1]
    exact this
theorem RwM.nil (s : aZ) (m : Nat) : RwM s m [] [] := ⟨rfl, fun i hi => absurd hi (Nat.not_lt_zero _)⟩
theorem RwM.one {s : aZ} {m : Nat} {y : Int} {x : Nat} (h98 : zz s 98 m = y) (h99 : zz s 99 m = (x : Nat)) : RwM s m [y] [x] := (RwM.nil s (m + 1)).cons h98 h99
section
variable (t : Nat → Int) (n : Nat) (ns tn : List (List Int)) (ta : List Int) (ct : List aT)
/-- its types, in the valuations of the pool -/
def MVl (ρ : List Nat) (K : aT) (L : List Nat) (P : Nat) (s : aZ) (P2 : Nat) (s2 : aZ) : Prop := (∃ rt u, PEm (arT ta) P2 s2 rt u) ∧ (∀ v, Vl unM P2 (vwM s2) v → Vl unM P (vwM s) v ∧ tyd t n ns tn ct K (ρ.map v) (L.map v)) ∧ ∀ v R, Vl unM P (vwM s) v → tyd t n ns tn ct K (ρ.map v) R → ∃ v2, Vl unM P2 (vwM s2) v2 ∧ (∀ k, k < P → v2 k = v k) ∧ L.map v2 = R
/-- what making a term comes to -/
def MkR (ρ : List Nat) (K : aT) (P m : Nat) (s s2 : aZ) (r : Int) (P2 m2 : Nat) : Prop := (zz s2 56 22 = 3 ∧ zz s2 56 23 = zz s 72 0 ∧ (bdA t n tn ta K = true ∨ ∀ v R, Vl unM P (vwM s) v → ¬ tyd t n ns tn ct K (ρ.map v) R)) ∨ (zz s2 56 22 = 0 ∧ zz s2 56 23 = zz s 56 23 ∧ bdA t n tn ta K = false ∧ m2 = m + tmW K ∧ ∃ L, RwM s2 m (syK K) L ∧ r = (L.headD 0 : Nat) ∧ L.length = tmW K ∧ (∀ k ∈ L, k < P2) ∧ MVl t n ns tn ta ct ρ K L P s P2 s2)
def MkO (B : aH) (ρ : List Nat) (K : aT) (C P m k : Nat) (s : aZ) (l : aZL) (q : aR) : Prop := ∃ (s2 : aZ) (r : Int) (P2 m2 : Nat), q = (.inl (some (iv r)), mkH B s2 l) ∧ FrMk P m k s s2 ∧ (zz s2 56 16 = (P2 : Nat) ∧ P ≤ P2 ∧ P2 ≤ P + C) ∧ (zz s2 56 62 = (m2 : Nat) ∧ m ≤ m2 ∧ m2 ≤ m + tmW K) ∧ MkR t n ns tn ta ct ρ K P m s s2 r P2 m2
end
