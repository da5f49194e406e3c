/-! THE READER MAKES TYPES EQUAL -/
section
variable {ar : Int → Nat}
abbrev unX : Int := -1000000
/-- the pool while types are made equal: W waits -/
def PQ (ar : Int → Nat) (P : Nat) (s : aZ) (rt u : Nat → Nat) (E W : List Nat) : Prop := PS P s ∧ Uf P (vwX s) rt u ∧ CdP unX ar P (vwX s) ∧ (PCl unX P (vwX s) rt (E ++ W) ∧ ∀ a ∈ E, a < P ∧ zz s 18 a ≠ unX) ∧ zz s 17 7 = (W.length : Nat) ∧ (∀ i, i < W.length → zz s 24 (W.length - 1 - i) = (W.getD i 0 : Nat)) ∧ (∀ a ∈ W, a < P ∧ zz s 18 a ≠ unX ∧ 0 ≤ zz s 19 a) ∧ W.length + nR P (vwX s) ≤ P
/-- what waits lies in the pool -/
def StR (P : Nat) (s : aZ) : Prop := 0 ≤ zz s 17 7 ∧ zz s 17 7 ≤ 17000 ∧ ∀ j : Nat, (j : Int) < zz s 17 7 → 0 ≤ zz s 24 j ∧ zz s 24 j < P
theorem PQ.st {P : Nat} (hP : P ≤ 17000) {s : aZ} {rt u : Nat → Nat} {E W : List Nat} (h : PQ ar P s rt u E W) : StR P s := by
  obtain ⟨h1, h2, h3, h4, h5, h6, h7, h8⟩ := h
  refine ⟨by omega, by omega, fun j hj => ?_⟩
  have hi := h6 (W.length - 1 - j) (by omega)
  rw [show W.length - 1 - (W.length - 1 - j) = j by omega] at hi
  have hm : W.getD (W.length - 1 - j) 0 ∈ W := by
    have hl : W.length - 1 - j < W.length := by omega
    rw [List.getD_eq_getElem?_getD, List.getElem?_eq_getElem hl]
    exact List.getElem_mem hl
  have := (h7 _ hm).1
  omega
/-- what making equal touches -/
def FrJ (s s2 : aZ) : Prop := (∀ k, k ≠ 17 → k ≠ 21 → k ≠ 24 → s2 k = s k) ∧ ∀ j, j ≠ 7 → j ≠ 10 → zz s2 17 j = zz s 17 j
theorem FrJ.rf (s : aZ) : FrJ s s := ⟨fun _ _ _ _ => rfl, fun _ _ _ => rfl⟩
theorem FrJ.tr {s1 s2 s3 : aZ} (a : FrJ s1 s2) (b : FrJ s2 s3) : FrJ s1 s3 := ⟨fun k h1 h2 h3 => (b.1 k h1 h2 h3).trans (a.1 k h1 h2 h3), fun j h1 h2 => (b.2 j h1 h2).trans (a.2 j h1 h2)⟩
theorem Hv.j {P : Nat} {s s2 : aZ} (a : Hv P s s2) : FrJ s s2 := ⟨fun k _ h _ => a.k k h, fun j _ _ => zz_of (a.k 17 (by decide)) j⟩
theorem Hv.a2 {P : Nat} {s s2 : aZ} (a : Hv P s s2) : (vwX s2).2 = (vwX s).2 := by
  unfold vwX
  refine Prod.ext (funext fun k => ?_) (Prod.ext (funext fun k => ?_) (funext fun k => ?_))
  · exact zz_of (a.k 18 (by decide)) k
  · exact zz_of (a.k 19 (by decide)) k
  · exact zz_of (a.k 20 (by decide)) k
theorem CdP.of {un : Int} {P : Nat} {A A2 : aPl} (h : CdP un ar P A) (e : A2.2 = A.2) : CdP un ar P A2 := by
  unfold CdP RgP at h ⊢
  rw [e]
  exact h
theorem PCl.hv {un : Int} {P : Nat} {A A2 : aPl} {rt u : Nat → Nat} {W : List Nat} (h : PCl un P A rt W) (hU : Uf P A rt u) (hU2 : Uf P A2 rt u) (e : A2.2 = A.2) : PCl un P A2 rt W := by
  have key : ∀ (D : aPl), Uf P D rt u → ∀ c : Nat → Nat, (∀ k, k < P → c k = c (D.1 k)) → ∀ m k, u k ≤ m → k < P → c k = c (rt k) := by
    intro D hD c hc m
    induction m with
    | zero =>
      intro k hk hP
      by_cases e : D.1 k = k
      · rw [((hD k hP).2.2.2.2.1 e).1]
      · have := (hD k hP).2.2.2.2.2.1 e; omega
    | succ m ih =>
      intro k hk hP
      by_cases e : D.1 k = k
      · rw [((hD k hP).2.2.2.2.1 e).1]
      · have := (hD k hP).2.2.2.2.2.1 e
        rw [hc k hP, ih (D.1 k) (by omega) (hD k hP).1, (hD k hP).2.2.2.1]
  obtain ⟨h1, h2⟩ := h
  unfold PCl
  rw [e]
  refine ⟨h1, fun c hc hw => h2 c (fun k hk => ?_) hw⟩
  have a := key A2 hU2 c hc
  rw [a (u k) k (Nat.le_refl _) hk, a (u (A.1 k)) (A.1 k) (Nat.le_refl _) (hU k hk).1, (hU k hk).2.2.2.1]
theorem PQ.hv {P : Nat} {s s2 : aZ} {rt u : Nat → Nat} {E W : List Nat} (h : PQ ar P s rt u E W) (a : Hv P s s2) : PQ ar P s2 rt u E W ∧ (∀ v, Vl unX P (vwX s2) v ↔ Vl unX P (vwX s) v) ∧ nR P (vwX s2) = nR P (vwX s) := by
  obtain ⟨h1, h2, h3, h4, h5, h6, h7, h8⟩ := h
  obtain ⟨g1, g2, g3, g4⟩ := a.uf h2 h1.2.2.1
  refine ⟨⟨a.ps h1, g1, h3.of a.a2, ⟨h4.1.hv h2 g1 a.a2, fun x hx => by rw [zz_of (a.k 18 (by decide))]; exact h4.2 x hx⟩, (zz_of (a.k 17 (by decide)) 7).trans h5, fun i hi => (zz_of (a.k 24 (by decide)) _).trans (h6 i hi), fun x hx => ?_, by rw [g4]; exact h8⟩, g3 unX, g4⟩
  rw [zz_of (a.k 18 (by decide)), zz_of (a.k 19 (by decide))]
  exact h7 x hx
/-- behind a link -/
theorem PQ.link {P : Nat} {s s2 : aZ} {rt u : Nat → Nat} {E W W2 : List Nat} {a b : Nat} (h : PQ ar P s rt u E W) (ha : a < P) (hb : b < P) (hP : P ≤ 17000) (ra : (vwX s).1 a = a) (rb : (vwX s).1 b = b) (hab : a ≠ b) (e21 : ∀ j, zz s2 21 j = zz (zu s 21 a (b : Int)) 21 j) (ek : ∀ k, k ≠ 17 → k ≠ 21 → k ≠ 24 → s2 k = s k) (e8 : zz s2 17 8 = zz s 17 8) (e7 : zz s2 17 7 = (W2.length : Nat)) (e24 : ∀ i, i < W2.length → zz s2 24 (W2.length - 1 - i) = (W2.getD i 0 : Nat)) (hc : PCl unX P (lnP (vwX s) a b) (rtL rt a b) (E ++ W2)) (hw : ∀ x ∈ W2, x < P ∧ zz s 18 x ≠ unX ∧ 0 ≤ zz s 19 x) (hl : W2.length ≤ W.length + 1) : PQ ar P s2 (rtL rt a b) (uL rt u a) E W2 ∧ vwX s2 = lnP (vwX s) a b ∧ W2.length + nR P (vwX s2) ≤ W.length + nR P (vwX s) := by
  obtain ⟨h1, h2, h3, h4, h5, h6, h7, h8⟩ := h
  have ev : vwX s2 = lnP (vwX s) a b := by
    rw [← vwX_ln s a b (by omega)]
    refine vwX_of (fun k q1 q2 j => ?_)
    by_cases e : k = 21
    · subst e; exact e21 j
    · rw [zz_of (ek k (by omega) e (by omega)), zz_ne _ _ _ _ _ _ (by omega)]
  have hn := nR_link ha ra hab (A := vwX s)
  have hS : PS P s2 := by
    obtain ⟨p0, p1, p2, p3⟩ := h1
    refine ⟨p0, e8.trans p1, fun j hj => ?_, fun j hj => ?_⟩
    · rw [e21]
      by_cases e : j = a
      · rw [e, zz_same _ _ _ ⟨by omega, by omega⟩]; omega
      · rw [zz_ne _ _ _ _ _ _ (by omega)]; exact p2 j hj
    · rw [zz_of (ek 18 (by decide) (by decide) (by decide)), zz_of (ek 19 (by decide) (by decide) (by decide)), zz_of (ek 20 (by decide) (by decide) (by decide))]
      exact p3 j hj
  rw [ev]
  refine ⟨⟨hS, by rw [ev]; exact h2.link ha hb ra rb hab, by rw [ev]; exact h3.of rfl, ⟨by rw [ev]; exact hc, fun x hx => by rw [zz_of (ek 18 (by decide) (by decide) (by decide))]; exact h4.2 x hx⟩, e7, e24, fun x hx => ?_, by rw [ev]; omega⟩, rfl, by omega⟩
  rw [zz_of (ek 18 (by decide) (by decide) (by decide)), zz_of (ek 19 (by decide) (by decide) (by decide))]
  exact hw x hx
/-- what a join comes to -/
def JNo (ar : Int → Nat) (P : Nat) (rt : Nat → Nat) (E W : List Nat) (one other : Nat) (B : aH) (s : aZ) (l : aZL) (q : aR) : Prop := ∃ s2, q = (.inl none, mkH B s2 l) ∧ FrJ s s2 ∧ ((zz s2 17 10 = 1 ∧ PS P s2 ∧ StR P s2 ∧ ∀ v, Vl unX P (vwX s) v → v one ≠ v other) ∨ (zz s2 17 10 = zz s 17 10 ∧ ∃ rt2 u2 W2, PQ ar P s2 rt2 u2 E W2 ∧ (∀ v, Vl unX P (vwX s2) v ↔ (Vl unX P (vwX s) v ∧ v one = v other)) ∧ rt2 one = rt2 other ∧ (∀ x y, rt x = rt y → rt2 x = rt2 y) ∧ (∀ r, r < P → rt r = r → zz s 18 r ≠ unX → 0 ≤ zz s 19 r → rt2 r = r ∨ r ∈ W2) ∧ (∀ a, a ∈ W → a ∈ W2) ∧ W2.length + nR P (vwX s2) ≤ W.length + nR P (vwX s)))
theorem x_join {d : Nat} {B : aH} (hB : a_Can B) (hd : 1 ≤ d) (l : aZL) (P : Nat) (hP : P ≤ 17000) (one other : Nat) (h1 : one < P) (h2 : other < P) (s : aZ) {rt u : Nat → Nat} {E W : List Nat} (hQ : PQ ar P s rt u E W) : a_W d 90 0 [.ref 17, iv (one : Int), iv (other : Int), .retAddr 0, .retAddr 0] [] (mkH B s l) (JNo ar P rt E W one other B s l) := by
  refine w90_0 hB (by omega) _ _ s l ⟨⟨by omega, by omega⟩, fun g => absurd g (by omega), fun _ => ⟨⟨by omega, by omega⟩, fun _ => (a_W.imp (x_findU hB l P hP one s h1 hQ.1.2.2.1 hQ.2.1) ?_), fun g => absurd g (by omega)⟩⟩
  rintro _ ⟨s1, rfl, v1⟩
  obtain ⟨hQ1, hV1, hn1⟩ := hQ.hv v1
  refine ⟨_, s1, l, rfl, a_W.imp (x_findU hB l P hP other s1 h2 hQ1.1.2.2.1 hQ1.2.1) ?_⟩
  rintro _ ⟨s4, rfl, v4⟩
  obtain ⟨hQ4, hV4, hn4⟩ := hQ1.hv v4
  have hVV : ∀ v, Vl unX P (vwX s4) v ↔ Vl unX P (vwX s) v := fun v => (hV4 v).trans (hV1 v)
  have hnn : nR P (vwX s4) = nR P (vwX s) := hn4.trans hn1
  have vv := v1.tr v4
  have fj : FrJ s s4 := vv.j
  have hQ4' := hQ4
  obtain ⟨q1, q2, q3, q4, q5, q6, q7, q8⟩ := hQ4
  have oa := q2 one h1
  have ob := q2 other h2
  have hra := oa.2.2.1
  have hrb := ob.2.2.1
  have ha := oa.2.1
  have hb := ob.2.1
  have npos := nR_pos ha hra
  have z : ∀ k j, k ≠ 21 → zz s4 k j = zz s k j := fun k j hk => zz_of (vv.k k hk) j
  have rtr : ∀ v, Vl unX P (vwX s4) v → v one = v (rt one) ∧ v other = v (rt other) := fun v hv => ⟨hv.root q2 one h1, hv.root q2 other h2⟩
  have frt : ∀ x, x < P → (vwX s4).1 x = x → rt x = x := fun x hx e => ((q2 x hx).2.2.2.2.1 e).1
  refine ⟨_, s4, l, rfl, ⟨by omega, by omega⟩, ⟨by omega, by omega⟩, fun hne => ?_, fun heq => ?_⟩
  rotate_left
  · -- they have one end
    have e : rt one = rt other := by omega
    refine ⟨s4, rfl, fj, Or.inr ⟨z 17 10 (by decide), rt, u, W, ⟨q1, q2, q3, q4, q5, q6, q7, q8⟩, fun v => ?_, e, fun x y h => h, fun r _ h _ _ => Or.inl h, fun a h => h, by rw [hnn]; exact Nat.le_refl _⟩⟩
    rw [hVV]
    refine ⟨fun hv => ⟨hv, ?_⟩, fun hv => hv.1⟩
    obtain ⟨a1, a2⟩ := rtr v ((hVV v).mpr hv)
    rw [a1, a2, e]
  have nab : rt one ≠ rt other := fun e => hne (by rw [e])
  have hne2 := hne
  -- a link from a to b
  have lk : ∀ (a b : Nat) (s5 : aZ) (W2 : List Nat), a < P → b < P → (vwX s4).1 a = a → (vwX s4).1 b = b → a ≠ b → ((a = rt one ∧ b = rt other) ∨ (a = rt other ∧ b = rt one)) → (∀ j, zz s5 21 j = zz (zu s4 21 a (b : Int)) 21 j) → (∀ k, k ≠ 17 → k ≠ 21 → k ≠ 24 → s5 k = s4 k) → (∀ j, j ≠ 7 → zz s5 17 j = zz s4 17 j) → zz s5 17 7 = (W2.length : Nat) → (∀ i, i < W2.length → zz s5 24 (W2.length - 1 - i) = (W2.getD i 0 : Nat)) → PCl unX P (lnP (vwX s4) a b) (rtL rt a b) (E ++ W2) → (∀ x ∈ W2, x < P ∧ zz s4 18 x ≠ unX ∧ 0 ≤ zz s4 19 x) → W2.length ≤ W.length + 1 → (∀ x ∈ W, x ∈ W2) → (zz s4 18 a ≠ unX → 0 ≤ zz s4 19 a → a ∈ W2) → JNo ar P rt E W one other B s l (.inl none, mkH B s5 l) := by
    intro a b s5 W2 la lb lra lrb lab lor e21 ek e17 e7 e24 hc hw hl hsub hpush
    obtain ⟨p1, p2, p3⟩ := PQ.link hQ4' la lb hP lra lrb lab e21 ek (e17 8 (by decide)) e7 e24 hc hw hl
    have fa := frt a la lra
    have fb := frt b lb lrb
    refine ⟨s5, rfl, ⟨fun k g1 g2 g3 => (ek k g1 g2 g3).trans (fj.1 k g1 g2 g3), fun j g1 g2 => (e17 j g1).trans (fj.2 j g1 g2)⟩, Or.inr ⟨(e17 10 (by decide)).trans (z 17 10 (by decide)), rtL rt a b, uL rt u a, W2, p1, fun v => ?_, ?_, fun x y h => ?_, fun r hr hrr hcr hfr => ?_, hsub, by rw [← hnn]; exact p3⟩⟩
    · rw [p2, Vl.link la lra v, ← hVV]
      constructor
      · rintro ⟨g1, g2⟩
        refine ⟨g1, ?_⟩
        obtain ⟨a1, a2⟩ := rtr v g1
        rw [a1, a2]
        rcases lor with ⟨r1, r2⟩ | ⟨r1, r2⟩
        · rw [← r1, ← r2]; exact g2
        · rw [← r1, ← r2]; exact g2.symm
      · rintro ⟨g1, g2⟩
        refine ⟨g1, ?_⟩
        obtain ⟨a1, a2⟩ := rtr v g1
        rw [a1, a2] at g2
        rcases lor with ⟨r1, r2⟩ | ⟨r1, r2⟩
        · rw [r1, r2]; exact g2
        · rw [r1, r2]; exact g2.symm
    · rcases lor with ⟨r1, r2⟩ | ⟨r1, r2⟩
      · rw [show rtL rt a b one = b from if_pos r1.symm, show rtL rt a b other = rt other from if_neg (fun e => lab (by rw [← e, r2]))]
        exact r2
      · rw [show rtL rt a b other = b from if_pos r1.symm, show rtL rt a b one = rt one from if_neg (fun e => lab (by rw [← e, r2]))]
        exact r2.symm
    · unfold rtL
      rw [h]
    · by_cases e : r = a
      · right
        rw [e]
        rw [e] at hcr hfr
        exact hpush (by rw [z 18 a (by decide)]; exact hcr) (by rw [z 19 a (by decide)]; exact hfr)
      · left
        exact (if_neg (by rw [hrr]; exact e)).trans hrr
  have q3' := q3
  obtain ⟨hrg, har⟩ := q3
  rw [natc, natc]
  have idp : ∀ (a b : Nat) (s5 : aZ), s5 = zu s4 21 a (b : Int) → (∀ j, zz s5 21 j = zz (zu s4 21 a (b : Int)) 21 j) ∧ (∀ k, k ≠ 17 → k ≠ 21 → k ≠ 24 → s5 k = s4 k) ∧ (∀ j, j ≠ 7 → zz s5 17 j = zz s4 17 j) ∧ zz s5 17 7 = (W.length : Nat) ∧ ∀ i, i < W.length → zz s5 24 (W.length - 1 - i) = (W.getD i 0 : Nat) := by
    rintro a b s5 rfl
    exact ⟨fun j => rfl, fun k _ h2 _ => zu_ne _ _ _ _ _ h2, fun j _ => zz_ne _ _ _ _ _ _ (by omega), (zz_ne _ _ _ _ _ _ (by omega)).trans q5, fun i hi => (zz_ne _ _ _ _ _ _ (by omega)).trans (q6 i hi)⟩
  refine ⟨⟨by omega, by omega⟩, fun ca => ⟨⟨by omega, by omega⟩, fun cb => ⟨fun cab => ⟨fun f0 => ?_, fun f0 => ⟨fun g => absurd g (by omega), fun _ => ⟨⟨by omega, by omega⟩, ?_⟩⟩⟩, fun cne => ?_⟩, fun cb => ?_⟩, fun ca => ?_⟩
  · -- both known, without parts
    obtain ⟨i1, i2, i3, i4, i5⟩ := idp (rt one) (rt other) _ rfl
    have r1 : (0 ≤ zz s4 19 (rt one) ↔ 1 ≤ ar (zz s4 18 (rt one))) ∧ (0 ≤ zz s4 20 (rt one) ↔ 2 ≤ ar (zz s4 18 (rt one))) := (har (rt one) ha).1 ca
    have r2 : (0 ≤ zz s4 19 (rt other) ↔ 1 ≤ ar (zz s4 18 (rt other))) ∧ (0 ≤ zz s4 20 (rt other) ↔ 2 ≤ ar (zz s4 18 (rt other))) := (har (rt other) hb).1 cb
    rw [← cab] at r2
    exact w90_145 hB _ _ _ _ _ l (lk (rt one) (rt other) _ W ha hb hra hrb nab (Or.inl ⟨rfl, rfl⟩) i1 i2 i3 i4 i5 (PCl.linkK q4.1 q2 ha hb hra hrb nab ca cab (fun x h => h) (Or.inr ⟨f0, by show zz s4 20 (rt one) < 0; omega, by show zz s4 19 (rt other) < 0; omega, by show zz s4 20 (rt other) < 0; omega⟩)) q7 (by omega) (fun x h => h) (fun _ h => absurd h (by omega)))
  · -- both known, with parts
    rw [q5, natc]
    refine w90_145 hB _ _ _ _ _ l (lk (rt one) (rt other) _ (rt one :: W) ha hb hra hrb nab (Or.inl ⟨rfl, rfl⟩) (fun j => ?_) (fun k g1 g2 g3 => ?_) (fun j hj => ?_) ?_ (fun i hi => ?_) (PCl.linkK q4.1 q2 ha hb hra hrb nab ca cab (fun x h => List.mem_append.mpr ((List.mem_append.mp h).elim Or.inl (fun h => Or.inr (List.mem_cons_of_mem _ h)))) (Or.inl (List.mem_append.mpr (Or.inr List.mem_cons_self)))) (fun x hx => ?_) (by rw [List.length_cons]; exact Nat.le_refl _) (fun x h => List.mem_cons_of_mem _ h) (fun _ _ => List.mem_cons_self))
    · rw [zz_ne _ _ _ _ _ _ (by omega), zz_ne _ _ _ _ _ _ (by omega)]
    · rw [zu_ne _ _ _ _ _ g1, zu_ne _ _ _ _ _ g3, zu_ne _ _ _ _ _ g2]
    · rw [zz_ne _ _ _ _ _ _ (by omega), zz_ne _ _ _ _ _ _ (by omega), zz_ne _ _ _ _ _ _ (by omega)]
    · rw [zz_same _ _ _ ⟨by omega, by omega⟩, List.length_cons]; rfl
    · rw [List.length_cons] at hi ⊢
      rw [zz_ne _ _ _ _ _ _ (by omega)]
      cases i with
      | zero =>
        rw [show W.length + 1 - 1 - 0 = W.length by omega, zz_same _ _ _ ⟨by omega, by omega⟩]
        rfl
      | succ i =>
        rw [show W.length + 1 - 1 - (i + 1) = W.length - 1 - i by omega, zz_ne _ _ _ _ _ _ (by omega), zz_ne _ _ _ _ _ _ (by omega)]
        exact q6 i (by omega)
    · rcases List.mem_cons.mp hx with e | e
      · rw [e]; exact ⟨ha, ca, f0⟩
      · exact q7 x e
  · -- a clash
    refine w90_145 hB _ _ _ _ _ l ⟨_, rfl, ⟨fun k g1 g2 g3 => (zu_ne _ _ _ _ _ g1).trans (fj.1 k g1 g2 g3), fun j g1 g2 => (zz_ne _ _ _ _ _ _ (by omega)).trans (fj.2 j g1 g2)⟩, Or.inl ⟨zz_same _ _ _ (by decide), q1.z (zz_ne _ _ _ _ _ _ (by omega)) (fun k _ _ j => zz_ne _ _ _ _ _ _ (by omega)), ⟨by rw [zz_ne _ _ _ _ _ _ (by omega)]; exact (hQ4'.st hP).1, by rw [zz_ne _ _ _ _ _ _ (by omega)]; exact (hQ4'.st hP).2.1, fun j hj => by rw [zz_ne _ _ _ _ _ _ (by omega)]; exact (hQ4'.st hP).2.2 j (by rw [zz_ne _ _ _ _ _ _ (by omega)] at hj; exact hj)⟩, fun v hv e => ?_⟩⟩
    have hv4 := (hVV v).mpr hv
    obtain ⟨a1, a2⟩ := rtr v hv4
    exact hv4.clash ha hb ca cb cne (hrg _ ha).2.2 (hrg _ hb).2.2 (by rw [← a1, ← a2]; exact e)
  · -- the other is unknown
    obtain ⟨i1, i2, i3, i4, i5⟩ := idp (rt other) (rt one) _ rfl
    exact w90_145 hB _ _ _ _ _ l (lk (rt other) (rt one) _ W hb ha hrb hra (fun e => nab e.symm) (Or.inr ⟨rfl, rfl⟩) i1 i2 i3 i4 i5 (PCl.linkU q4.1 q2 hb hrb cb (fun x hx => (List.mem_append.mp hx).elim (fun h => q4.2 x h) (fun h => ⟨(q7 x h).1, (q7 x h).2.1⟩))) q7 (by omega) (fun x h => h) (fun c => absurd cb c))
  · -- the one is unknown
    obtain ⟨i1, i2, i3, i4, i5⟩ := idp (rt one) (rt other) _ rfl
    exact w90_145 hB _ _ _ _ _ l (lk (rt one) (rt other) _ W ha hb hra hrb nab (Or.inl ⟨rfl, rfl⟩) i1 i2 i3 i4 i5 (PCl.linkU q4.1 q2 ha hra ca (fun x hx => (List.mem_append.mp hx).elim (fun h => q4.2 x h) (fun h => ⟨(q7 x h).1, (q7 x h).2.1⟩))) q7 (by omega) (fun x h => h) (fun c => absurd ca c))
end
