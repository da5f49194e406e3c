/-! THE READER MAKES TYPES EQUAL: exactly -/
section
variable {ar : Int → Nat}
theorem Uf.cls {P : Nat} {D : aPl} {rt u : Nat → Nat} (hD : Uf P D rt u) (c : Nat → Nat) (hc : ∀ k, k < P → c k = c (D.1 k)) : ∀ k, k < P → c k = c (rt k) := by
  have key : ∀ m k, u k ≤ m → k < P → c k = c (rt k) := by
    intro m
    induction m with
    | zero =>
      intro k hk hP
      by_cases e : D.1 k = k
      · rw [((hD k hP).2.2.2.2.1 e).1]
      · have := (hD k hP).2.2.2.2.2.1 e; omega
    | succ m ih =>
      intro k hk hP
      by_cases e : D.1 k = k
      · rw [((hD k hP).2.2.2.2.1 e).1]
      · have := (hD k hP).2.2.2.2.2.1 e
        rw [hc k hP, ih (D.1 k) (by omega) (hD k hP).1, (hD k hP).2.2.2.1]
  exact fun k hk => key (u k) k (Nat.le_refl _) hk
/-- the pool at rest -/
def PE (ar : Int → Nat) (P : Nat) (s : aZ) (rt u : Nat → Nat) : Prop := PS P s ∧ Uf P (vwX s) rt u ∧ CdP unX ar P (vwX s) ∧ ClP unX P (vwX s) rt
/-- one that waited has joined parts -/
theorem PCl.drop {P : Nat} {A : aPl} {rt u : Nat → Nat} {W : List Nat} {a r : Nat} (h : PCl unX P A rt (a :: W)) (hU : Uf P A rt u) (hR : RgP P A) (ha : a < P) (hr : r < P) (e1 : prt rt (A.2.2.1 a) = prt rt (A.2.2.1 r)) (e2 : prt rt (A.2.2.2 a) = prt rt (A.2.2.2 r)) (ear : rt a = rt r) (hrr : rt r = r ∨ r ∈ W) : PCl unX P A rt W := by
  refine ⟨h.1, fun c hc hw => h.2 c hc (fun x hx => ?_)⟩
  rcases List.mem_cons.mp hx with e | e
  · rw [e]
    have cl := hU.cls c hc
    have tr : ∀ x y : Int, (-1 ≤ x ∧ x < P) → (-1 ≤ y ∧ y < P) → prt rt x = prt rt y → prt c x = prt c y := fun x y hx hy hxy => by
      unfold prt at hxy ⊢
      by_cases e1 : x < 0
      · rw [if_pos e1] at hxy ⊢
        by_cases e2 : y < 0
        · rw [if_pos e2]
        · rw [if_neg e2] at hxy; omega
      · rw [if_neg e1] at hxy ⊢
        by_cases e2 : y < 0
        · rw [if_pos e2] at hxy; omega
        · rw [if_neg e2] at hxy ⊢
          rw [cl x.toNat (by omega), cl y.toNat (by omega), show rt x.toNat = rt y.toNat by omega]
    obtain ⟨a1, a2, -⟩ := hR a ha
    obtain ⟨r1, r2, -⟩ := hR r hr
    have t1 := tr _ _ a1 r1 e1
    have t2 := tr _ _ a2 r2 e2
    rw [ear]
    rcases hrr with q | q
    · rw [q]; exact ⟨t1, t2⟩
    · have := hw r q
      exact ⟨t1.trans this.1, t2.trans this.2⟩
  · exact hw x e
/-- parts are joined -/
theorem x_parts {d : Nat} {B : aH} (hB : a_Can B) (hd : 2 ≤ d) (l : aZL) (P : Nat) (hP : P ≤ 17000) (x y : Int) (h1 : -1 ≤ x ∧ x < P) (h2 : -1 ≤ y ∧ y < P) (hxy : x < 0 ↔ y < 0) (s : aZ) {rt u : Nat → Nat} {E W : List Nat} (hQ : PQ ar P s rt u E W) (heq : ∀ v, Vl unX P (vwX s) v → ptT v x = ptT v y) : a_W d 90 0 [.ref 17, iv x, iv y, .retAddr 0, .retAddr 0] [] (mkH B s l) (fun q => ∃ s2, q = (.inl none, mkH B s2 l) ∧ FrJ s s2 ∧ ((zz s2 17 10 = 1 ∧ PS P s2 ∧ StR P s2 ∧ ∀ v, ¬ Vl unX P (vwX s) v) ∨ (zz s2 17 10 = zz s 17 10 ∧ ∃ rt2 u2 W2, PQ ar P s2 rt2 u2 E W2 ∧ (∀ v, Vl unX P (vwX s2) v ↔ Vl unX P (vwX s) v) ∧ prt rt2 x = prt rt2 y ∧ (∀ x y, rt x = rt y → rt2 x = rt2 y) ∧ (∀ r, r < P → rt r = r → zz s 18 r ≠ unX → 0 ≤ zz s 19 r → rt2 r = r ∨ r ∈ W2) ∧ (∀ a, a ∈ W → a ∈ W2) ∧ W2.length + nR P (vwX s2) ≤ W.length + nR P (vwX s)))) := by
  have no : x < 0 → ∃ s2, ((.inl none, mkH B s l) : aR) = (.inl none, mkH B s2 l) ∧ FrJ s s2 ∧ ((zz s2 17 10 = 1 ∧ PS P s2 ∧ StR P s2 ∧ ∀ v, ¬ Vl unX P (vwX s) v) ∨ (zz s2 17 10 = zz s 17 10 ∧ ∃ rt2 u2 W2, PQ ar P s2 rt2 u2 E W2 ∧ (∀ v, Vl unX P (vwX s2) v ↔ Vl unX P (vwX s) v) ∧ prt rt2 x = prt rt2 y ∧ (∀ x y, rt x = rt y → rt2 x = rt2 y) ∧ (∀ r, r < P → rt r = r → zz s 18 r ≠ unX → 0 ≤ zz s 19 r → rt2 r = r ∨ r ∈ W2) ∧ (∀ a, a ∈ W → a ∈ W2) ∧ W2.length + nR P (vwX s2) ≤ W.length + nR P (vwX s))) := fun hx => by
    refine ⟨s, rfl, FrJ.rf s, Or.inr ⟨rfl, rt, u, W, hQ, fun _ => Iff.rfl, ?_, fun _ _ h => h, fun _ _ h _ _ => Or.inl h, fun _ h => h, Nat.le_refl _⟩⟩
    unfold prt
    rw [if_pos hx, if_pos (hxy.mp hx)]
  by_cases hx : x < 0
  · exact w90_0 hB (by omega) x y s l ⟨⟨by omega, by omega⟩, fun g => w90_8 hB x y s l (no g), fun g => absurd g (by omega)⟩
  have g1 : 0 ≤ x := by omega
  have g2 : 0 ≤ y := by omega
  obtain ⟨a, ea⟩ : ∃ a : Nat, x = a := ⟨x.toNat, by omega⟩
  obtain ⟨b, eb⟩ : ∃ b : Nat, y = b := ⟨y.toNat, by omega⟩
  subst ea
  subst eb
  have heq' : ∀ v, Vl unX P (vwX s) v → v a = v b := fun v hv => by
    have := heq v hv
    rw [ptT_p _ _ g1, ptT_p _ _ g2, natc, natc] at this
    exact this
  refine a_W.imp (x_join hB (by omega) l P hP a b (by omega) (by omega) s hQ) ?_
  rintro _ ⟨s2, rfl, f, ⟨c1, c2, c3, c4⟩ | ⟨c1, rt2, u2, W2, c2, c3, c4, c5, c6, c7, c8⟩⟩
  · exact ⟨s2, rfl, f, Or.inl ⟨c1, c2, c3, fun v hv => c4 v hv (heq' v hv)⟩⟩
  · refine ⟨s2, rfl, f, Or.inr ⟨c1, rt2, u2, W2, c2, fun v => ?_, ?_, c5, c6, c7, c8⟩⟩
    · rw [c3]
      exact ⟨fun h => h.1, fun h => ⟨h, heq' v h⟩⟩
    · unfold prt
      rw [if_neg (by omega), if_neg (by omega), natc, natc, c4]
/-- what making equal comes to -/
def XEq (ar : Int → Nat) (P : Nat) (one other : Nat) (B : aH) (s : aZ) (l : aZL) (q : aR) : Prop := ∃ s2, q = (.inl none, mkH B s2 l) ∧ FrJ s s2 ∧ PS P s2 ∧ ((zz s2 17 10 = 1 ∧ ∀ v, Vl unX P (vwX s) v → v one ≠ v other) ∨ (zz s2 17 10 = 0 ∧ ∃ rt2 u2, PE ar P s2 rt2 u2 ∧ ∀ v, Vl unX P (vwX s2) v ↔ (Vl unX P (vwX s) v ∧ v one = v other)))
theorem x_eq_loop {d : Nat} {B : aH} (hB : a_Can B) (hd : 3 ≤ d) (l : aZL) (P : Nat) (hP : P ≤ 17000) (x1 x2 : Int) (one other : Nat) (s0 : aZ) : ∀ (m : Nat) (x3 : Nat) (u4 u5 : Value) (s : aZ) (rt u : Nat → Nat) (W : List Nat), x3 + m = 17000 → PQ ar P s rt u [] W → x3 + (W.length + nR P (vwX s)) ≤ P → zz s 17 10 = 0 → (∀ v, Vl unX P (vwX s) v ↔ (Vl unX P (vwX s0) v ∧ v one = v other)) → FrJ s0 s → a_W d 89 13 [.ref 17, iv x1, iv x2, iv (x3 : Int), u4, u5] [] (mkH B s l) (XEq ar P one other B s0 l) := by
  intro m
  induction m with
  | zero =>
    intro x3 u4 u5 s rt u W h3 hQ hn
    exfalso
    have p0 := hQ.1.1
    have := nR_pos (hQ.2.1 0 p0).2.1 (hQ.2.1 0 p0).2.2.1
    omega
  | succ m ih =>
    intro x3 u4 u5 s rt u W h3 hQ hn hc hV hf
    have hQ' := hQ
    obtain ⟨q1, q2, q3, q4, q5, q6, q7, q8⟩ := hQ
    cases W with
    | nil =>
      have q5' : zz s 17 7 = 0 := q5
      refine w89_13 hB (by omega) x1 x2 _ u4 u5 s l ⟨⟨by omega, by omega⟩, fun h => absurd h (by omega), fun _ => ⟨fun _ => ?_, fun h => absurd h (by omega)⟩⟩
      exact w89_105 hB _ _ _ _ _ s l ⟨s, rfl, hf, q1, Or.inr ⟨hc, rt, u, ⟨q1, q2, q3, q4.1.cl q2⟩, hV⟩⟩
    | cons a W =>
      have el : (a :: W).length = W.length + 1 := List.length_cons
      rw [el] at q5 hn
      obtain ⟨ha, hac, haf⟩ := q7 a List.mem_cons_self
      have e24 : zz s 24 W.length = a := by
        have := q6 0 (by rw [el]; omega)
        rw [el, show W.length + 1 - 1 - 0 = W.length by omega] at this
        exact this
      refine w89_13 hB (by omega) x1 x2 _ u4 u5 s l ⟨⟨by omega, by omega⟩, fun h => absurd h (by omega), fun _ => ⟨fun h => absurd h (by omega), fun _ => ⟨fun h => absurd hc h, fun _ => ⟨⟨by omega, by omega⟩, ?_⟩⟩⟩⟩
      rw [show zz s 17 7 - 1 = (W.length : Int) by omega, natc, e24]
      have ev1 : vwX (zu s 17 7 (W.length : Int)) = vwX s := vwX_of (fun k _ _ j => zz_ne _ _ _ _ _ _ (by omega))
      have hQ1 : PQ ar P (zu s 17 7 (W.length : Int)) rt u [a] W := by
        refine ⟨q1.z (zz_ne _ _ _ _ _ _ (by omega)) (fun k _ _ q => zz_ne _ _ _ _ _ _ (by omega)), by rw [ev1]; exact q2, by rw [ev1]; exact q3, ⟨by rw [ev1]; exact q4.1, fun x hx => ?_⟩, zz_same _ _ _ ⟨by omega, by omega⟩, fun i hi => ?_, fun x hx => ?_, by rw [ev1]; omega⟩
        · rw [List.mem_singleton.mp hx, zz_ne _ _ _ _ _ _ (by omega)]
          exact ⟨ha, hac⟩
        · rw [zz_ne _ _ _ _ _ _ (by omega)]
          have := q6 (i + 1) (by rw [el]; omega)
          rw [el, show W.length + 1 - 1 - (i + 1) = W.length - 1 - i by omega] at this
          exact this
        · rw [zz_ne _ _ _ _ _ _ (by omega), zz_ne _ _ _ _ _ _ (by omega)]
          exact q7 x (List.mem_cons_of_mem _ hx)
      have hf1 : FrJ s (zu s 17 7 (W.length : Int)) := ⟨fun k g1 _ _ => zu_ne _ _ _ _ _ g1, fun q g1 _ => zz_ne _ _ _ _ _ _ (by omega)⟩
      have hc1 : zz (zu s 17 7 (W.length : Int)) 17 10 = 0 := (zz_ne _ _ _ _ _ _ (by omega)).trans hc
      have hV1 : ∀ v, Vl unX P (vwX (zu s 17 7 (W.length : Int))) v ↔ (Vl unX P (vwX s0) v ∧ v one = v other) := fun v => by rw [ev1]; exact hV v
      have hn1 : x3 + (W.length + 1 + nR P (vwX (zu s 17 7 (W.length : Int)))) ≤ P := by rw [ev1]; exact hn
      generalize zu s 17 7 (W.length : Int) = s1 at *
      refine a_W.imp (x_findU hB l P hP a s1 ha hQ1.1.2.2.1 hQ1.2.1) ?_
      rintro _ ⟨s6, rfl, f6⟩
      obtain ⟨hQ6, hV6, hn6⟩ := hQ1.hv f6
      have hQ6' := hQ6
      obtain ⟨p1, p2, p3, p4, p5, p6, p7, p8⟩ := hQ6
      have hr := (p2 a ha).2.1
      have hac6 := (p4.2 a List.mem_cons_self).2
      have hcode : zz s6 18 (rt a) = zz s6 18 a := p4.1.1 a ha hac6
      have hrr : rt (rt a) = rt a := ((p2 (rt a) hr).2.2.2.2.1 (p2 a ha).2.2.1).1
      have hrc : zz s6 18 (rt a) ≠ unX := by rw [hcode]; exact hac6
      obtain ⟨hrg, har⟩ := p3
      have r1 : (0 ≤ zz s6 19 a ↔ 1 ≤ ar (zz s6 18 a)) ∧ (0 ≤ zz s6 20 a ↔ 2 ≤ ar (zz s6 18 a)) := (har a ha).1 hac6
      have r2 : (0 ≤ zz s6 19 (rt a) ↔ 1 ≤ ar (zz s6 18 (rt a))) ∧ (0 ≤ zz s6 20 (rt a) ↔ 2 ≤ ar (zz s6 18 (rt a))) := (har (rt a) hr).1 hrc
      rw [hcode] at r2
      have haf6 : 0 ≤ zz s6 19 a := by
        rw [zz_of (f6.k 19 (by decide)), zz_of (hf1.1 19 (by decide) (by decide) (by decide))]
        exact haf
      have hpt : ∀ v, Vl unX P (vwX s6) v → ptT v (zz s6 19 a) = ptT v (zz s6 19 (rt a)) ∧ ptT v (zz s6 20 a) = ptT v (zz s6 20 (rt a)) := fun v hv => hv.parts ha hr hac6 hrc (hv.root p2 a ha)
      obtain ⟨g1, g2, -⟩ := hrg a ha
      obtain ⟨k1, k2, -⟩ := hrg (rt a) hr
      have hVs : ∀ v, Vl unX P (vwX s6) v ↔ (Vl unX P (vwX s0) v ∧ v one = v other) := fun v => (hV6 v).trans (hV1 v)
      refine ⟨_, s6, l, rfl, ⟨by omega, by omega⟩, ⟨by omega, by omega⟩, ?_⟩
      rw [natc, natc]
      -- behind a clash
      have cla : ∀ (s8 : aZ), PS P s8 → zz s8 17 10 = 1 → FrJ s0 s8 → (∀ v, ¬ Vl unX P (vwX s6) v) → a_W d 89 13 [.ref 17, iv x1, iv x2, iv ((x3 : Int) + 1), iv (a : Int), iv ((rt a : Nat) : Int)] [] (mkH B s8 l) (XEq ar P one other B s0 l) := by
        intro s8 hS8 hc8 hf8 hno
        have ex : a_W d 89 105 [.ref 17, iv x1, iv x2, iv ((x3 : Int) + 1), iv (a : Int), iv ((rt a : Nat) : Int)] [] (mkH B s8 l) (XEq ar P one other B s0 l) := w89_105 hB _ _ _ _ _ s8 l ⟨s8, rfl, hf8, hS8, Or.inl ⟨hc8, fun v hv e => hno v ((hVs v).mpr ⟨hv, e⟩)⟩⟩
        exact w89_13 hB (by omega) x1 x2 _ _ _ s8 l ⟨⟨by omega, by omega⟩, fun _ => ex, fun _ => ⟨fun _ => ex, fun _ => ⟨fun _ => ex, fun h => absurd (hc8.symm.trans h) (by decide)⟩⟩⟩
      have f06 : FrJ s0 s6 := hf.tr (hf1.tr f6.j)
      refine a_W.imp (x_parts hB (by omega) l P hP (zz s6 19 a) (zz s6 19 (rt a)) g1 k1 (by omega) s6 hQ6' (fun v hv => (hpt v hv).1)) ?_
      rintro _ ⟨s7, rfl, f7, ⟨c1, c2, c3, c4⟩ | ⟨c1, rt7, u7, W7, hQ7, hV7, e7, mono7, root7, sub7, n7⟩⟩
      · refine ⟨s7, l, rfl, ?_⟩
        refine a_W.imp (x_partsS hB (by omega) l P hP _ _ (c2.2.2.2 a ha).2.1 (c2.2.2.2 (rt a) hr).2.1 s7 c2 c3) ?_
        rintro _ ⟨s8, rfl, o1, o2, o3, o4⟩
        refine ⟨s8, l, rfl, cla s8 o2 ?_ (f06.tr (f7.tr o1)) c4⟩
        rcases o4 with e | e
        · exact e
        · exact e.trans c1
      · refine ⟨s7, l, rfl, ?_⟩
        have z7 : ∀ k j, (k = 18 ∨ k = 19 ∨ k = 20) → zz s7 k j = zz s6 k j := fun k j hk => zz_of (f7.1 k (by omega) (by omega) (by omega)) j
        rw [z7 20 a (by omega), z7 20 (rt a) (by omega)]
        refine a_W.imp (x_parts hB (by omega) l P hP (zz s6 20 a) (zz s6 20 (rt a)) g2 k2 (by omega) s7 hQ7 (fun v hv => (hpt v ((hV7 v).mp hv)).2)) ?_
        rintro _ ⟨s8, rfl, f8, ⟨c1', c2, c3, c4⟩ | ⟨c1', rt8, u8, W8, hQ8, hV8, e8, mono8, root8, sub8, n8⟩⟩
        · exact ⟨s8, l, rfl, cla s8 c2 c1' (f06.tr (f7.tr f8)) (fun v hv => c4 v ((hV7 v).mpr hv))⟩
        · refine ⟨s8, l, rfl, ?_⟩
          have z8 : ∀ k j, (k = 18 ∨ k = 19 ∨ k = 20) → zz s8 k j = zz s6 k j := fun k j hk => (zz_of (f8.1 k (by omega) (by omega) (by omega)) j).trans (z7 k j hk)
          obtain ⟨t1, t2, t3, t4, t5, t6, t7, t8⟩ := hQ8
          have hroot : rt8 (rt a) = rt a ∨ rt a ∈ W8 := by
            rcases root7 (rt a) hr hrr hrc (by omega) with e | e
            · exact root8 (rt a) hr e (by rw [z7 18 _ (by omega)]; exact hrc) (by rw [z7 19 _ (by omega)]; omega)
            · exact Or.inr (sub8 _ e)
          have ear : rt8 a = rt8 (rt a) := mono8 _ _ (mono7 _ _ hrr.symm)
          have em : ∀ x y : Int, prt rt7 x = prt rt7 y → prt rt8 x = prt rt8 y := fun x y h => by
            unfold prt at h ⊢
            by_cases q1 : x < 0
            · rw [if_pos q1] at h ⊢
              by_cases q2 : y < 0
              · rw [if_pos q2]
              · rw [if_neg q2] at h; omega
            · rw [if_neg q1] at h ⊢
              by_cases q2 : y < 0
              · rw [if_pos q2] at h; omega
              · rw [if_neg q2] at h ⊢
                rw [mono8 _ _ (show rt7 x.toNat = rt7 y.toNat by omega)]
          have hd8 : PCl unX P (vwX s8) rt8 W8 := PCl.drop t4.1 t2 t3.1 ha hr (by show prt rt8 (zz s8 19 a) = prt rt8 (zz s8 19 (rt a)); rw [z8 19 _ (by omega), z8 19 _ (by omega)]; exact em _ _ e7) (by show prt rt8 (zz s8 20 a) = prt rt8 (zz s8 20 (rt a)); rw [z8 20 _ (by omega), z8 20 _ (by omega)]; exact e8) ear hroot
          have hc8 : zz s8 17 10 = 0 := by
            rw [c1', c1, zz_of (f6.k 17 (by decide))]; exact hc1
          rw [show (x3 : Int) + 1 = ((x3 + 1 : Nat) : Int) by omega]
          refine ih (x3 + 1) _ _ s8 rt8 u8 W8 (by omega) ⟨t1, t2, t3, ⟨hd8, fun x hx => absurd hx List.not_mem_nil⟩, t5, t6, t7, t8⟩ (by omega) hc8 (fun v => ((hV8 v).trans (hV7 v)).trans (hVs v)) (f06.tr (f7.tr f8))
/-- TWO TYPES ARE MADE EQUAL -/
theorem x_equate {d : Nat} {B : aH} (hB : a_Can B) (hd : 3 ≤ d) (l : aZL) (P : Nat) (hP : P ≤ 17000) (one other : Nat) (h1 : one < P) (h2 : other < P) (s : aZ) {rt u : Nat → Nat} (hE : PE ar P s rt u) (hc : zz s 17 10 = 0) : a_W d 89 0 [.ref 17, iv (one : Int), iv (other : Int), .retAddr 0, .retAddr 0, .retAddr 0] [] (mkH B s l) (XEq ar P one other B s l) := by
  obtain ⟨q1, q2, q3, q4⟩ := hE
  have ev1 : vwX (zu s 17 7 0) = vwX s := vwX_of (fun k _ _ j => zz_ne _ _ _ _ _ _ (by omega))
  have nle : nR P (vwX s) ≤ P := by have := (q2 0 q1.1).2.2.2.2.2.2; omega
  have hQ1 : PQ ar P (zu s 17 7 0) rt u [] [] := ⟨q1.z (zz_ne _ _ _ _ _ _ (by omega)) (fun k _ _ q => zz_ne _ _ _ _ _ _ (by omega)), by rw [ev1]; exact q2, by rw [ev1]; exact q3, ⟨by rw [ev1]; exact q4.pcl q2 q3.1 _, fun x hx => absurd hx List.not_mem_nil⟩, zz_same _ _ _ (by decide), fun i hi => absurd hi (Nat.not_lt_zero _), fun x hx => absurd hx List.not_mem_nil, by rw [ev1]; show 0 + _ ≤ P; omega⟩
  have hf1 : FrJ s (zu s 17 7 0) := ⟨fun k g1 _ _ => zu_ne _ _ _ _ _ g1, fun q g1 _ => zz_ne _ _ _ _ _ _ (by omega)⟩
  have hc1 : zz (zu s 17 7 0) 17 10 = 0 := (zz_ne _ _ _ _ _ _ (by omega)).trans hc
  refine w89_0 hB (by omega) _ _ s l (a_W.imp (x_join hB (by omega) l P hP one other h1 h2 (zu s 17 7 0) hQ1) ?_)
  rintro _ ⟨s2, rfl, f2, ⟨c1, c2, c3, c4⟩ | ⟨c1, rt2, u2, W2, hQ2, hV2, e2, mono2, root2, sub2, n2⟩⟩
  · rw [ev1] at c4
    have ex : ∀ (x : Int) (u4 u5 : Value), a_W d 89 105 [.ref 17, iv (one : Int), iv (other : Int), iv x, u4, u5] [] (mkH B s2 l) (XEq ar P one other B s l) := fun x u4 u5 => w89_105 hB _ _ _ _ _ s2 l ⟨s2, rfl, hf1.tr f2, c2, Or.inl ⟨c1, c4⟩⟩
    exact ⟨s2, l, rfl, w89_13 hB (by omega) _ _ _ _ _ s2 l ⟨by decide, fun _ => ex _ _ _, fun _ => ⟨fun _ => ex _ _ _, fun _ => ⟨fun _ => ex _ _ _, fun h => absurd (c1.symm.trans h) (by decide)⟩⟩⟩⟩
  · rw [ev1] at hV2 n2
    exact ⟨s2, l, rfl, x_eq_loop hB hd l P hP _ _ one other s 17000 0 _ _ s2 rt2 u2 W2 (by decide) hQ2 (by have : ([] : List Nat).length = 0 := rfl; omega) (c1.trans hc1) hV2 (hf1.tr f2)⟩
end
