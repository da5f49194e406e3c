/-! THE READER MEASURES ALL ITS TYPES, or one lies within itself -/
section
variable {B : aH} {P : Nat} {rt u : Nat → Nat} {s0 : aZ}
theorem x_mloop (hB : a_Can B) {ar : Int → Nat} (hE : PE ar P s0 rt u) (hP : P ≤ 17000) {d : Nat} (hd : 4 ≤ d) (l : aZL) (x1 : Int) : ∀ (φ : Nat) (L : List Nat) (M x3 : Nat) (s : aZ) (u4 u5 : Value), xMB P rt u s0 s → xDS P rt s0 s L M → xSk s L → 2 * cz P s L + L.length = φ → x3 + φ ≤ 34000 → a_W d 110 11 [.ref 17, iv x1, iv (L.length : Int), iv (x3 : Int), u4, u5] [] (mkH B s l) (fun q => ∃ s2, xMB P rt u s0 s2 ∧ ((q = (.inl (some (iv 0)), mkH B s2 l) ∧ ∀ v, ¬ Vl unX P (vwX s0) v) ∨ (q = (.inl (some (iv 1)), mkH B s2 l) ∧ ∃ M2, xDS P rt s0 s2 [] M2 ∧ (∀ k ∈ L, 1 ≤ zz s2 23 k) ∧ ∀ k, 1 ≤ zz s 23 k → 1 ≤ zz s2 23 k))) := by
  have hS := hE.1
  have hPS := hS.2.2.2
  intro φ
  induction φ with
  | zero =>
    intro L M x3 s u4 u5 hm hD hk hφ hx
    have hl : L = [] := List.eq_nil_of_length_eq_zero (by omega)
    subst hl
    have en : a_W d 110 101 [.ref 17, iv x1, iv (([] : List Nat).length : Int), iv (x3 : Int), u4, u5] [] (mkH B s l) (fun q => ∃ s2, xMB P rt u s0 s2 ∧ ((q = (.inl (some (iv 0)), mkH B s2 l) ∧ ∀ v, ¬ Vl unX P (vwX s0) v) ∨ (q = (.inl (some (iv 1)), mkH B s2 l) ∧ ∃ M2, xDS P rt s0 s2 [] M2 ∧ (∀ k ∈ ([] : List Nat), 1 ≤ zz s2 23 k) ∧ ∀ k, 1 ≤ zz s 23 k → 1 ≤ zz s2 23 k))) := w110_101 hB _ _ _ _ _ s l ⟨s, hm, Or.inr ⟨rfl, M, hD, fun k hk => absurd hk List.not_mem_nil, fun k h => h⟩⟩
    exact w110_11 hB (by omega) _ _ _ _ _ s l ⟨⟨by omega, by omega⟩, fun _ => en, fun _ => ⟨by decide, fun _ => en, fun c => absurd c (by decide)⟩⟩
  | succ φ ih =>
    intro L M x3 s u4 u5 hm hD hk hφ hx
    cases L with
    | nil =>
      have en : a_W d 110 101 [.ref 17, iv x1, iv (([] : List Nat).length : Int), iv (x3 : Int), u4, u5] [] (mkH B s l) (fun q => ∃ s2, xMB P rt u s0 s2 ∧ ((q = (.inl (some (iv 0)), mkH B s2 l) ∧ ∀ v, ¬ Vl unX P (vwX s0) v) ∨ (q = (.inl (some (iv 1)), mkH B s2 l) ∧ ∃ M2, xDS P rt s0 s2 [] M2 ∧ (∀ k ∈ ([] : List Nat), 1 ≤ zz s2 23 k) ∧ ∀ k, 1 ≤ zz s 23 k → 1 ≤ zz s2 23 k))) := w110_101 hB _ _ _ _ _ s l ⟨s, hm, Or.inr ⟨rfl, M, hD, fun k hk => absurd hk List.not_mem_nil, fun k h => h⟩⟩
      exact w110_11 hB (by omega) _ _ _ _ _ s l ⟨⟨by omega, by omega⟩, fun _ => en, fun _ => ⟨by decide, fun _ => en, fun c => absurd c (by decide)⟩⟩
    | cons r L =>
      obtain ⟨⟨d1, d2, d3⟩, ⟨d4, d5⟩, d6, d7, d8, d9⟩ := hD
      have hlen : (r :: L).length = L.length + 1 := rfl
      obtain ⟨hrP, hrr⟩ := d2 r List.mem_cons_self
      obtain ⟨dn, dN⟩ := List.nodup_cons.mp d1
      have htop : zz s 24 L.length = (r : Nat) := hk 0 (by rw [hlen]; omega)
      have e2 : (((r :: L).length : Nat) : Int) - 1 = (L.length : Int) := by rw [hlen]; omega
      have hPr := hPS r hrP
      rw [hlen] at d9
      have hl7 : L.length + 1 ≤ 17000 := by omega
      refine w110_11 hB (by omega) _ _ _ _ _ s l ⟨⟨by omega, by omega⟩, fun c => absurd c (by omega), fun _ => ⟨⟨by rw [hlen]; omega, by rw [hlen]; omega⟩, fun c => absurd c (by rw [hlen]; omega), fun _ => ?_⟩⟩
      rw [e2, natc, htop, natc]
      refine ⟨⟨by omega, by omega⟩, ⟨by omega, by omega⟩, ?_⟩
      have hm1 : xMB P rt u s0 (zu s 23 r (-1)) := hm.wr 23 r (-1) (by omega)
      have zr : zz (zu s 23 r (-1)) 23 r = -1 := zz_same _ _ _ (by decide)
      have zn : ∀ k, k ≠ r → zz (zu s 23 r (-1)) 23 k = zz s 23 k := fun k hk => zz_ne _ _ _ _ _ _ (by omega)
      have z22 : ∀ k, zz (zu s 23 r (-1)) 22 k = zz s 22 k := fun k => zz_ne _ _ _ _ _ _ (by omega)
      have z24 : ∀ k, zz (zu s 23 r (-1)) 24 k = zz s 24 k := fun k => zz_ne _ _ _ _ _ _ (by omega)
      generalize zu s 23 r (-1) = s' at *
      have hr0 : zz s 23 r ≤ 0 := d5 r List.mem_cons_self
      have aL : ∀ k ∈ r :: L, zz s' 23 k = -1 := fun k hk => by
        rcases List.mem_cons.mp hk with rfl | hk
        · exact zr
        · rw [zn k (fun e => dn (e ▸ hk))]; exact d4 k hk
      have ms : ∀ k, 1 ≤ zz s 23 k → k ≠ r := fun k h e => by rw [e] at h; omega
      have ms' : ∀ k, 1 ≤ zz s' 23 k → 1 ≤ zz s 23 k := fun k h => by
        by_cases e : k = r
        · rw [e, zr] at h; omega
        · rw [zn k e] at h; exact h
      have d8' : ∀ k, k < P → rt k = k → 1 ≤ zz s' 23 k → xMs rt s0 s' k := fun k h1 h2 h3 => xMs.keep (P := P) (d8 k h1 h2 (ms' k h3)) (fun j hj => ⟨zn j (ms j hj), z22 j⟩) (ms' k h3)
      have d7' : ∀ k, k < P → -1 ≤ zz s' 23 k ∧ zz s' 23 k ≤ M := fun k hk => by
        by_cases e : k = r
        · rw [e, zr]; omega
        · rw [zn k e]; exact d7 k hk
      have cz' : cz P s' (r :: L) = cz P s (r :: L) := cz_eq (fun k _ => by
        by_cases e : k = r
        · rw [e]
          exact ⟨fun h => absurd List.mem_cons_self h.2, fun h => absurd List.mem_cons_self h.2⟩
        · rw [zn k e])
      refine a_W.imp (x_unmeasured hB (by omega) l hP r hrP hm1 hPr.1 hPr.2.1) ?_
      rintro _ ⟨s7, v, rfl, hv, hh⟩
      have hm7 := hm1.hv hv
      have y23 : ∀ k, zz s7 23 k = zz s' 23 k := fun k => zz_of (hv.k 23 (by decide)) k
      have y22 : ∀ k, zz s7 22 k = zz s' 22 k := fun k => zz_of (hv.k 22 (by decide)) k
      have y24 : ∀ k, zz s7 24 k = zz s 24 k := fun k => (zz_of (hv.k 24 (by decide)) k).trans (z24 k)
      rcases hh with ⟨rfl, p1, p2⟩ | ⟨p, rfl, pP, pr, p0, pt⟩
      · -- all parts are measured
        refine ⟨_, s7, l, rfl, by decide, fun c => absurd c (by decide), fun _ => ?_⟩
        have hg7 : ∀ x, hgP rt s7 x = hgP rt s' x ∧ sgP rt s7 x = sgP rt s' x := fun x => by
          unfold hgP sgP
          rw [y23, y22]
          exact ⟨rfl, rfl⟩
        have pb : ∀ x : Int, -1 ≤ x → x < P → (0 ≤ x → 1 ≤ zz s' 23 (rt x.toNat)) → (0 ≤ sgP rt s7 x ∧ sgP rt s7 x ≤ 1000000) ∧ (0 ≤ hgP rt s7 x ∧ hgP rt s7 x ≤ M) := fun x a b c => by
          rw [(hg7 x).1, (hg7 x).2]
          unfold hgP sgP
          by_cases e : x < 0
          · rw [if_pos e, if_pos e]
            omega
          · rw [if_neg e, if_neg e]
            have c1 := c (by omega)
            obtain ⟨q1, q2⟩ := rt_rt hm1.2.1 (show x.toNat < P by omega)
            have q3 := (d8' _ q1 q2 c1).2.2.2.2
            have q4 := d7' _ q1
            omega
        obtain ⟨b1, b3⟩ := pb _ hPr.1.1 hPr.1.2 p1
        obtain ⟨b2, b4⟩ := pb _ hPr.2.1.1 hPr.2.1.2 p2
        refine a_W.imp (x_measureU hB (by omega) l hP r hrP hm7 hPr.1 hPr.2.1 b1 b2 b3.1) ?_
        rintro _ ⟨s1, rfl, hv1⟩
        refine ⟨_, l, rfl, w110_95 hB _ _ _ _ _ _ l ?_⟩
        have hm16 : xMB P rt u s0 (zu (zu s1 22 r (min (1 + sgP rt s7 (zz s0 19 r) + sgP rt s7 (zz s0 20 r)) 1000000)) 23 r (max (hgP rt s7 (zz s0 19 r)) (hgP rt s7 (zz s0 20 r)) + 1)) := ((hm7.hv hv1).wr 22 r _ (by omega)).wr 23 r _ (by omega)
        have w23 : zz (zu (zu s1 22 r (min (1 + sgP rt s7 (zz s0 19 r) + sgP rt s7 (zz s0 20 r)) 1000000)) 23 r (max (hgP rt s7 (zz s0 19 r)) (hgP rt s7 (zz s0 20 r)) + 1)) 23 r = max (hgP rt s7 (zz s0 19 r)) (hgP rt s7 (zz s0 20 r)) + 1 := zz_same _ _ _ ⟨by omega, by omega⟩
        have w22 : zz (zu (zu s1 22 r (min (1 + sgP rt s7 (zz s0 19 r) + sgP rt s7 (zz s0 20 r)) 1000000)) 23 r (max (hgP rt s7 (zz s0 19 r)) (hgP rt s7 (zz s0 20 r)) + 1)) 22 r = min (1 + sgP rt s7 (zz s0 19 r) + sgP rt s7 (zz s0 20 r)) 1000000 := by rw [zz_ne _ _ _ _ _ _ (by omega), zz_same _ _ _ ⟨by omega, by omega⟩]
        have wn : ∀ k, k ≠ r → zz (zu (zu s1 22 r (min (1 + sgP rt s7 (zz s0 19 r) + sgP rt s7 (zz s0 20 r)) 1000000)) 23 r (max (hgP rt s7 (zz s0 19 r)) (hgP rt s7 (zz s0 20 r)) + 1)) 23 k = zz s' 23 k ∧ zz (zu (zu s1 22 r (min (1 + sgP rt s7 (zz s0 19 r) + sgP rt s7 (zz s0 20 r)) 1000000)) 23 r (max (hgP rt s7 (zz s0 19 r)) (hgP rt s7 (zz s0 20 r)) + 1)) 22 k = zz s' 22 k := fun k hk => ⟨by rw [zz_ne _ _ _ _ _ _ (by omega), zz_ne _ _ _ _ _ _ (by omega), zz_of (hv1.k 23 (by decide)), y23], by rw [zz_ne _ _ _ _ _ _ (by omega), zz_ne _ _ _ _ _ _ (by omega), zz_of (hv1.k 22 (by decide)), y22]⟩
        have w24 : ∀ k, zz (zu (zu s1 22 r (min (1 + sgP rt s7 (zz s0 19 r) + sgP rt s7 (zz s0 20 r)) 1000000)) 23 r (max (hgP rt s7 (zz s0 19 r)) (hgP rt s7 (zz s0 20 r)) + 1)) 24 k = zz s 24 k := fun k => by rw [zz_ne _ _ _ _ _ _ (by omega), zz_ne _ _ _ _ _ _ (by omega), zz_of (hv1.k 24 (by decide)), y24]
        generalize (zu (zu s1 22 r (min (1 + sgP rt s7 (zz s0 19 r) + sgP rt s7 (zz s0 20 r)) 1000000)) 23 r (max (hgP rt s7 (zz s0 19 r)) (hgP rt s7 (zz s0 20 r)) + 1)) = s16 at *
        have hr16 : 1 ≤ zz s16 23 r := by omega
        have ms16 : ∀ k, 1 ≤ zz s' 23 k → zz s16 23 k = zz s' 23 k ∧ zz s16 22 k = zz s' 22 k := fun k h => wn k (fun e => by rw [e, zr] at h; omega)
        have hg16 : ∀ x : Int, (0 ≤ x → 1 ≤ zz s' 23 (rt x.toNat)) → hgP rt s16 x = hgP rt s7 x ∧ sgP rt s16 x = sgP rt s7 x := fun x hx => by
          rw [(hg7 x).1, (hg7 x).2]
          unfold hgP sgP
          by_cases e : x < 0
          · exact ⟨by rw [if_pos e, if_pos e], by rw [if_pos e, if_pos e]⟩
          · rw [if_neg e, if_neg e, if_neg e, if_neg e]; exact ms16 _ (hx (by omega))
        have cz16 : cz P s16 L = cz P s' (r :: L) := cz_eq (fun k _ => by
          by_cases e : k = r
          · rw [e]
            exact ⟨fun h => absurd h.1 (by omega), fun h => absurd List.mem_cons_self h.2⟩
          · rw [(wn k e).1, List.mem_cons]
            exact ⟨fun h => ⟨h.1, fun q => q.elim e h.2⟩, fun h => ⟨h.1, fun q => h.2 (Or.inr q)⟩⟩)
        have nr : ∀ k ∈ L, k ≠ r := fun k hk e => dn (e ▸ hk)
        have hD16 : xDS P rt s0 s16 L (M + 1) := by
          refine ⟨⟨dN, fun k hk => d2 k (List.mem_cons_of_mem _ hk), d3.2⟩, ⟨fun k hk => ?_, fun k hk => ?_⟩, fun k hk h => ?_, fun k hk => ?_, fun k hk h1 h2 => ?_, by rw [cz16, cz']; omega⟩
          · have hk' := List.mem_of_mem_tail hk
            rw [(wn k (nr k hk')).1]; exact aL k (List.mem_cons_of_mem _ hk')
          · rw [(wn k (nr k hk)).1, aL k (List.mem_cons_of_mem _ hk)]; decide
          · by_cases e : k = r
            · rw [e] at h; omega
            · rw [(wn k e).1, zn k e] at h
              rcases List.mem_cons.mp (d6 k hk h) with q | q
              · exact absurd q e
              · exact q
          · by_cases e : k = r
            · rw [e]; omega
            · rw [(wn k e).1]
              have := d7' k hk
              omega
          · by_cases e : k = r
            · subst e
              refine ⟨by rw [w23, (hg16 _ p1).1, (hg16 _ p2).1], by rw [w22, (hg16 _ p1).2, (hg16 _ p2).2], fun q => by rw [(ms16 _ (p1 q)).1]; exact p1 q, fun q => by rw [(ms16 _ (p2 q)).1]; exact p2 q, by rw [w22]; omega⟩
            · rw [(wn k e).1] at h2
              exact xMs.keep (P := P) (d8' k hk h1 h2) ms16 h2
        have hk16 : xSk s16 L := fun i hi => by
          rw [w24]
          have := hk (i + 1) (by rw [hlen]; omega)
          rw [hlen, show L.length + 1 - 1 - (i + 1) = L.length - 1 - i by omega] at this
          exact this
        rw [show (((r :: L).length : Nat) : Int) + (-1) = (L.length : Int) by rw [hlen]; omega, show (x3 : Int) + 1 = ((x3 + 1 : Nat) : Int) by omega]
        refine a_W.imp (ih L (M + 1) (x3 + 1) s16 _ _ hm16 hD16 hk16 (by rw [cz16, cz']; rw [hlen] at hφ; omega) (by omega)) ?_
        rintro q ⟨s2, g1, g2⟩
        refine ⟨s2, g1, ?_⟩
        rcases g2 with g2 | ⟨g2, M2, g3, g4, g5⟩
        · exact Or.inl g2
        · refine Or.inr ⟨g2, M2, g3, fun k hk => ?_, fun k h => ?_⟩
          · rcases List.mem_cons.mp hk with rfl | hk
            · exact g5 _ hr16
            · exact g4 k hk
          · have e := ms k h
            refine g5 k ?_
            rw [(wn k e).1, zn k e]
            exact h
      · -- a part is not yet measured
        refine ⟨_, s7, l, rfl, ⟨by omega, by omega⟩, fun _ => ⟨⟨by omega, by omega⟩, ?_⟩, fun c => absurd c (by omega)⟩
        rw [natc, y23]
        refine ⟨fun c => ?_, fun c => ?_⟩
        · refine w110_82 hB _ _ _ _ _ s7 l ⟨s7, hm7, Or.inl ⟨rfl, fun v hV => ?_⟩⟩
          have hin : p ∈ r :: L := by
            by_cases e : p = r
            · rw [e]; exact List.mem_cons_self
            · rw [zn p e] at c
              exact d6 p pP c
          have h1 := xPt.lt hE hV hrP pt
          have h2 := xCh.le hE hV L r (fun k hk => (d2 k hk).1) d3 p hin
          omega
        · have hp0 : zz s' 23 p = 0 := by
            have := d7' p pP
            omega
          have pn : p ∉ r :: L := fun h => c (aL p h)
          have hdec : cz P s' (p :: r :: L) + 1 = cz P s' (r :: L) := cz_dec pP ⟨hp0, pn⟩ (fun h => h.2 List.mem_cons_self) (fun k hk => by
            rw [List.mem_cons (a := k) (b := p)]
            exact ⟨fun h => ⟨h.1, fun q => h.2 (Or.inr q)⟩, fun h => ⟨h.1, fun q => q.elim hk h.2⟩⟩)
          have hll : (r :: L).length < 17000 := by rw [hlen]; omega
          refine ⟨fun _ => ⟨⟨by omega, by omega⟩, w110_95 hB _ _ _ _ _ _ l ?_⟩, fun c => absurd c (by omega)⟩
          rw [natc]
          have hm8 : xMB P rt u s0 (zu s7 24 (r :: L).length (p : Int)) := hm7.wr 24 _ _ (by omega)
          have x23 : ∀ k, zz (zu s7 24 (r :: L).length (p : Int)) 23 k = zz s' 23 k := fun k => by rw [zz_ne _ _ _ _ _ _ (by omega), y23]
          have x22 : ∀ k, zz (zu s7 24 (r :: L).length (p : Int)) 22 k = zz s' 22 k := fun k => by rw [zz_ne _ _ _ _ _ _ (by omega), y22]
          have x24 : zz (zu s7 24 (r :: L).length (p : Int)) 24 (r :: L).length = p := zz_same _ _ _ ⟨by omega, by omega⟩
          have x24n : ∀ k, k ≠ (r :: L).length → zz (zu s7 24 (r :: L).length (p : Int)) 24 k = zz s 24 k := fun k hk => by rw [zz_ne _ _ _ _ _ _ (by omega), y24]
          generalize (zu s7 24 (r :: L).length (p : Int)) = s8 at *
          have cz8 : cz P s8 (p :: r :: L) = cz P s' (p :: r :: L) := cz_eq (fun k _ => by rw [x23])
          have hD8 : xDS P rt s0 s8 (p :: r :: L) M := by
            refine ⟨⟨List.nodup_cons.mpr ⟨pn, d1⟩, fun k hk => ?_, ⟨fun b hb => by cases hb; exact pt, d3⟩⟩, ⟨fun k hk => by rw [x23]; exact aL k hk, fun k hk => ?_⟩, fun k hk h => ?_, fun k hk => by rw [x23]; exact d7' k hk, fun k h1 h2 h3 => ?_, ?_⟩
            · rcases List.mem_cons.mp hk with rfl | hk
              · exact ⟨pP, pr⟩
              · exact d2 k hk
            · rw [x23]
              rcases List.mem_cons.mp hk with rfl | hk
              · omega
              · rw [aL k hk]; decide
            · rw [x23] at h
              refine List.mem_cons_of_mem _ ?_
              by_cases e : k = r
              · rw [e]; exact List.mem_cons_self
              · rw [zn k e] at h
                exact d6 k hk h
            · rw [x23] at h3
              exact xMs.keep (P := P) (d8' k h1 h2 h3) (fun j _ => ⟨x23 j, x22 j⟩) h3
            · rw [cz8, List.length_cons, hlen]; omega
          have hk8 : xSk s8 (p :: r :: L) := fun i hi => by
            rw [List.length_cons] at hi ⊢
            cases i with
            | zero => exact x24
            | succ i =>
              rw [x24n _ (by omega), show (r :: L).length + 1 - 1 - (i + 1) = (r :: L).length - 1 - i by omega]
              exact hk i (by omega)
          rw [show (((r :: L).length : Nat) : Int) + 1 = (((p :: r :: L).length : Nat) : Int) by rw [List.length_cons (a := p)]; omega, show (x3 : Int) + 1 = ((x3 + 1 : Nat) : Int) by omega]
          refine a_W.imp (ih (p :: r :: L) M (x3 + 1) s8 _ _ hm8 hD8 hk8 (by rw [cz8, List.length_cons]; omega) (by omega)) ?_
          rintro q ⟨s2, g1, g2⟩
          refine ⟨s2, g1, ?_⟩
          rcases g2 with g2 | ⟨g2, M2, g3, g4, g5⟩
          · exact Or.inl g2
          · refine Or.inr ⟨g2, M2, g3, fun k hk => g4 k (List.mem_cons_of_mem _ hk), fun k h => g5 k ?_⟩
            rw [x23, zn k (ms k h)]
            exact h
/-- all types are measured, or there is no solution -/
theorem x_mall (hB : a_Can B) {ar : Int → Nat} (hE : PE ar P s0 rt u) (hP : P ≤ 17000) {d : Nat} (hd : 5 ≤ d) (l : aZL) : a_W d 109 0 [.ref 17, .retAddr 0, .retAddr 0] [] (mkH B s0 l) (fun q => ∃ s2, xMB P rt u s0 s2 ∧ ((q = (.inl (some (iv 0)), mkH B s2 l) ∧ ∀ v, ¬ Vl unX P (vwX s0) v) ∨ (q = (.inl (some (iv 1)), mkH B s2 l) ∧ ∀ k, k < P → rt k = k → 1 ≤ zz s2 23 k ∧ xMs rt s0 s2 k))) := by
  have hS := hE.1
  have h8 : ∀ {s : aZ}, xMB P rt u s0 s → zz s 17 8 = (P : Nat) := fun h => (zz_of (h.2.2.1 17 (by decide) (by decide) (by decide) (by decide)) 8).trans hS.2.1
  -- the second loop
  have lp : ∀ (r k M : Nat) (s : aZ) (u2 : Value), k + r = P → xMB P rt u s0 s → xDS P rt s0 s [] M → (∀ j, j < k → 1 ≤ zz s 23 (rt j)) → a_W d 109 25 [.ref 17, iv (k : Int), u2] [] (mkH B s l) (fun q => ∃ s2, xMB P rt u s0 s2 ∧ ((q = (.inl (some (iv 0)), mkH B s2 l) ∧ ∀ v, ¬ Vl unX P (vwX s0) v) ∨ (q = (.inl (some (iv 1)), mkH B s2 l) ∧ ∀ k, k < P → rt k = k → 1 ≤ zz s2 23 k ∧ xMs rt s0 s2 k))) := by
    intro r
    induction r with
    | zero =>
      intro k M s u2 hk hm hD hd
      have e8 := h8 hm
      refine w109_25 hB (by omega) _ _ s l ⟨⟨by omega, by omega⟩, fun _ => ⟨s, hm, Or.inr ⟨rfl, fun j hj hr => ?_⟩⟩, fun c => absurd c (by omega)⟩
      have h1 := hd j (by omega)
      rw [hr] at h1
      exact ⟨h1, hD.2.2.2.2.1 j hj hr h1⟩
    | succ r ih =>
      intro k M s u2 hk hm hD hd
      have e8 := h8 hm
      refine w109_25 hB (by omega) _ _ s l ⟨⟨by omega, by omega⟩, fun c => absurd c (by omega), fun _ => a_W.imp (x_findU hB l P hP k s (by omega) hm.1 hm.2.1) ?_⟩
      rintro _ ⟨s3, rfl, hv⟩
      have hm3 := hm.hv hv
      obtain ⟨q1, q2⟩ := rt_rt hm.2.1 (show k < P by omega)
      have y23 : ∀ k, zz s3 23 k = zz s 23 k := fun k => zz_of (hv.k 23 (by decide)) k
      have y22 : ∀ k, zz s3 22 k = zz s 22 k := fun k => zz_of (hv.k 22 (by decide)) k
      refine ⟨_, s3, l, rfl, ⟨by omega, by omega⟩, ?_⟩
      rw [natc]
      have cz3 : cz P s3 [] = cz P s [] := cz_eq (fun k _ => by rw [y23])
      obtain ⟨⟨d1, d2, d3⟩, ⟨d4, d5⟩, d6, d7, d8, d9⟩ := hD
      have hD3 : xDS P rt s0 s3 [] M := ⟨⟨d1, d2, d3⟩, ⟨fun k hk => absurd hk List.not_mem_nil, fun k hk => absurd hk List.not_mem_nil⟩, fun k hk h => d6 k hk (by rw [← y23]; exact h), fun k hk => by rw [y23]; exact d7 k hk, fun k a b c => xMs.keep (P := P) (d8 k a b (by rw [← y23]; exact c)) (fun j _ => ⟨y23 j, y22 j⟩) (by rw [← y23]; exact c), by rw [cz3]; exact d9⟩
      have nx : ∀ (s8 : aZ) (M2 : Nat), xMB P rt u s0 s8 → xDS P rt s0 s8 [] M2 → (∀ j, 1 ≤ zz s3 23 j → 1 ≤ zz s8 23 j) → 1 ≤ zz s8 23 (rt k) → a_W d 109 58 [.ref 17, iv (k : Int), iv (rt k : Int)] [] (mkH B s8 l) (fun q => ∃ s2, xMB P rt u s0 s2 ∧ ((q = (.inl (some (iv 0)), mkH B s2 l) ∧ ∀ v, ¬ Vl unX P (vwX s0) v) ∨ (q = (.inl (some (iv 1)), mkH B s2 l) ∧ ∀ k, k < P → rt k = k → 1 ≤ zz s2 23 k ∧ xMs rt s0 s2 k))) := by
        intro s8 M2 g1 g2 g3 g4
        refine w109_58 hB _ _ s8 l ?_
        rw [show (k : Int) + 1 = ((k + 1 : Nat) : Int) by omega]
        refine ih (k + 1) M2 s8 _ (by omega) g1 g2 (fun j hj => ?_)
        by_cases e : j = k
        · rw [e]; exact g4
        · exact g3 _ (by rw [y23]; exact hd j (by omega))
      refine ⟨fun c => nx s3 M hm3 hD3 (fun _ h => h) ?_, fun c => ?_⟩
      · have a := d7 (rt k) q1
        have b : zz s 23 (rt k) ≠ -1 := fun e => absurd (d6 _ q1 e) List.not_mem_nil
        rw [y23] at c ⊢
        omega
      · have hm4 : xMB P rt u s0 (zu s3 24 0 (rt k : Int)) := hm3.wr 24 _ _ (by omega)
        have x23 : ∀ k', zz (zu s3 24 0 (rt k : Int)) 23 k' = zz s3 23 k' := fun k' => zz_ne _ _ _ _ _ _ (by omega)
        have x22 : ∀ k', zz (zu s3 24 0 (rt k : Int)) 22 k' = zz s3 22 k' := fun k' => zz_ne _ _ _ _ _ _ (by omega)
        have x24 : zz (zu s3 24 0 (rt k : Int)) 24 0 = (rt k : Nat) := zz_same _ _ _ ⟨by omega, by omega⟩
        refine w110_0 hB _ s3 l ?_
        generalize zu s3 24 0 (rt k : Int) = s4 at *
        have hdec : cz P s4 [rt k] + 1 = cz P s3 [] := cz_dec q1 ⟨c, List.not_mem_nil⟩ (fun h => h.2 List.mem_cons_self) (fun j hj => by
          rw [x23]
          exact ⟨fun h => ⟨h.1, List.not_mem_nil⟩, fun h => ⟨h.1, fun q => hj (List.mem_singleton.mp q)⟩⟩)
        obtain ⟨-, -, f6, f7, f8, f9⟩ := hD3
        have f9 : M + 0 + cz P s3 [] ≤ P := f9
        have hD4 : xDS P rt s0 s4 [rt k] M := ⟨⟨List.nodup_cons.mpr ⟨List.not_mem_nil, List.nodup_nil⟩, fun j hj => by rw [List.mem_singleton.mp hj]; exact ⟨q1, q2⟩, ⟨fun b hb => (by cases hb), trivial⟩⟩, ⟨fun j hj => absurd hj List.not_mem_nil, fun j hj => by rw [List.mem_singleton.mp hj, x23]; omega⟩, fun j hj h => absurd (f6 j hj (by rw [← x23]; exact h)) List.not_mem_nil, fun j hj => by rw [x23]; exact f7 j hj, fun j a b e => xMs.keep (P := P) (f8 j a b (by rw [← x23]; exact e)) (fun j _ => ⟨x23 j, x22 j⟩) (by rw [← x23]; exact e), by show M + 1 + _ ≤ P; omega⟩
        have hk4 : xSk s4 [rt k] := fun i hi => by
          have : i = 0 := by have : i < 1 := hi; omega
          subst this
          exact x24
        refine a_W.imp (x_mloop hB hE hP (d := d - 1) (by omega) l _ (2 * cz P s4 [rt k] + 1) [rt k] M 0 s4 _ _ hm4 hD4 hk4 rfl (by omega)) ?_
        rintro _ ⟨s8, g1, ⟨rfl, g2⟩ | ⟨rfl, M2, g2, g3, g4⟩⟩
        · exact ⟨_, s8, l, rfl, by decide, fun c => absurd rfl c, fun _ => ⟨s8, g1, Or.inl ⟨rfl, g2⟩⟩⟩
        · exact ⟨_, s8, l, rfl, by decide, fun _ => nx s8 M2 g1 g2 (fun j h => g4 j (by rw [x23]; exact h)) (g3 _ List.mem_cons_self), fun c => absurd c (by decide)⟩
  -- the first loop
  have lp0 : ∀ (r k : Nat) (s : aZ), k + r = P → xMB P rt u s0 s → (∀ j, j < k → zz s 23 j = 0) → a_W d 109 2 [.ref 17, iv (k : Int), .retAddr 0] [] (mkH B s l) (fun q => ∃ s2, xMB P rt u s0 s2 ∧ ((q = (.inl (some (iv 0)), mkH B s2 l) ∧ ∀ v, ¬ Vl unX P (vwX s0) v) ∨ (q = (.inl (some (iv 1)), mkH B s2 l) ∧ ∀ k, k < P → rt k = k → 1 ≤ zz s2 23 k ∧ xMs rt s0 s2 k))) := by
    intro r
    induction r with
    | zero =>
      intro k s hk hm h0
      have e8 := h8 hm
      have z0 : ∀ j, j < P → zz s 23 j = 0 := fun j hj => h0 j (by omega)
      refine w109_2 hB _ s l ⟨⟨by omega, by omega⟩, fun _ => ?_, fun c => absurd c (by omega)⟩
      refine lp P 0 0 s _ (by omega) hm ⟨⟨List.nodup_nil, fun k hk => absurd hk List.not_mem_nil, trivial⟩, ⟨fun k hk => absurd hk List.not_mem_nil, fun k hk => absurd hk List.not_mem_nil⟩, fun k hk h => absurd (z0 k hk) (by omega), fun k hk => by rw [z0 k hk]; omega, fun k hk _ h => absurd (z0 k hk) (by omega), ?_⟩ (fun j hj => absurd hj (Nat.not_lt_zero _))
      have := List.countP_le_length (p := fun k => decide (zz s 23 k = 0 ∧ k ∉ ([] : List Nat))) (l := List.range P)
      rw [List.length_range] at this
      show 0 + 0 + cz P s [] ≤ P
      unfold cz
      omega
    | succ r ih =>
      intro k s hk hm h0
      have e8 := h8 hm
      refine w109_2 hB _ s l ⟨⟨by omega, by omega⟩, fun c => absurd c (by omega), fun _ => ⟨⟨by omega, by omega⟩, ?_⟩⟩
      rw [natc, show (k : Int) + 1 = ((k + 1 : Nat) : Int) by omega]
      refine ih (k + 1) _ (by omega) (hm.wr 23 k 0 (by omega)) (fun j hj => ?_)
      by_cases e : j = k
      · rw [e]; exact zz_same _ _ _ (by decide)
      · rw [zz_ne _ _ _ _ _ _ (by omega)]; exact h0 j (by omega)
  exact w109_0 hB s0 l (lp0 P 0 s0 (by omega) ⟨hS.2.2.1, hE.2.1, fun _ _ _ _ _ => rfl, fun _ => Iff.rfl⟩ (fun j hj => absurd hj (Nat.not_lt_zero _)))
end
