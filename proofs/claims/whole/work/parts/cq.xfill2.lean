/-! THE READER SHOWS A TERM: the loop -/
section
variable {B : aH} {P : Nat} {rt u : Nat → Nat} {s0 : aZ}
theorem xWr.wh {s : aZ} {sn : List Nat} (h : xWr P rt u s0 s sn) (c j : Nat) (x : Int) (hc : 51 ≤ c) : xWr P rt u s0 (zu s c j x) sn := by
  obtain ⟨h1, h2, h3, h4, h5, h6⟩ := h
  have e : vwX (zu s c j x) = vwX s := vwX_of (fun k k1 k2 i => zz_ne _ _ _ _ _ _ (by omega))
  exact ⟨fun i hi => by rw [zz_ne _ _ _ _ _ _ (by omega)]; exact h1 i hi, by rw [e]; exact h2, fun k a1 a2 a3 a4 a5 => (zu_ne _ _ _ _ _ (by omega)).trans (h3 k a1 a2 a3 a4 a5), by rw [zz_ne _ _ _ _ _ _ (by omega)]; exact h4, fun k hk => by rw [zz_ne _ _ _ _ _ _ (by omega)]; exact h5 k hk, h6⟩
def flP (s0 : aZ) (rt : Nat → Nat) (ps : aPd) (cnt at' : Nat) (sn : List Nat) (B : aH) (s : aZ) (l : aZL) (q : aR) : Prop := ∃ s2, q = (.inl none, mkH B s2 l) ∧ zz s2 51 4 = ((cnt + pdW ps : Nat) : Int) ∧ (∀ j, j < pdW ps → zz s2 52 (cnt + j) = (pdS ps).getD j 0) ∧ RwF 53 54 s2 (wrL ((pdL ps).map (tN s0 rt)) sn).1 cnt at' ∧ (∀ j, j < cnt → zz s2 52 j = zz s 52 j) ∧ (∀ j, j ≤ cnt → zz s2 53 j = zz s 53 j) ∧ (∀ j, j < at' → zz s2 54 j = zz s 54 j) ∧ ∀ k, (k < 17 ∨ (24 < k ∧ k < 51) ∨ 55 < k) → s2 k = s k
def xS5 (s : aZ) (ps : aPd) : Prop := ∀ i, i < ps.length → zz s 55 (ps.length - 1 - i) = ((ps.getD i (cNo, 0, [])).2.1 : Nat)
theorem x_floop (hB : a_Can B) {ar : Int → Nat} (hE : PE ar P s0 rt u) (hA : AcP unX P (vwX s0) rt (fun k => (zz s0 23 k).toNat)) (hP : P ≤ 17000) {d : Nat} (hd : 2 ≤ d) (l : aZL) (x2 : Int) (c : Nat) (hc : c ≤ 501) (h49 : ∀ j, j < c → 0 ≤ zz s0 49 j) : ∀ (m : Nat) (ps : aPd) (cnt at' : Nat) (sn : List Nat) (s : aZ) (u5 : Value), pdW ps = m → cnt + m ≤ 500 → (cnt = 0 → ps.length ≤ 1) → at' ≤ 40 * cnt → sn.length ≤ at' → (∀ q ∈ ps, coK q.1 ∧ TI s0 1 c q.1 q.2.1 q.2.2) → (∀ k ∈ pdL ps, k < P ∧ szT (tN s0 rt k) ≤ 40) → xWr P rt u s0 s sn → zz s 51 4 = (cnt : Nat) → zz s 53 cnt = (at' : Nat) → xS5 s ps → a_W d 114 15 [.ref 51, .ref 45, iv x2, .ref 17, iv (ps.length : Int), u5] [] (mkH B s l) (flP s0 rt ps cnt at' sn B s l) := by
  intro m
  induction m with
  | zero =>
    intro ps cnt at' sn s u5 hm hcm hc0 hat hsn hT hL hw h51 h53 h55
    have hl := pd_len ps
    have e : ps = [] := List.eq_nil_of_length_eq_zero (by omega)
    subst e
    have en : a_W d 114 144 [.ref 51, .ref 45, iv x2, .ref 17, iv (([] : aPd).length : Int), u5] [] (mkH B s l) (flP s0 rt [] cnt at' sn B s l) := w114_144 hB _ _ _ s l ⟨s, rfl, h51, fun j hj => absurd hj (Nat.not_lt_zero _), h53, fun _ _ => rfl, fun _ _ => rfl, fun _ _ => rfl, fun _ _ => rfl⟩
    exact w114_15 hB (by omega) _ _ _ s l ⟨fun _ => en, fun _ => ⟨by decide, fun _ => en, fun c => absurd c (by decide)⟩⟩
  | succ m ih =>
    intro ps cnt at' sn s u5 hm hcm hc0 hat hsn hT hL hw h51 h53 h55
    have hl := pd_len ps
    cases ps with
    | nil => exact absurd hm (by show ¬ (0 = m + 1); omega)
    | cons q ps =>
      obtain ⟨K, w, L⟩ := q
      have hlen : ((K, w, L) :: ps).length = ps.length + 1 := rfl
      have ew : pdW ((K, w, L) :: ps) = tmW K + pdW ps := rfl
      obtain ⟨hK, hTI⟩ := hT _ List.mem_cons_self
      obtain ⟨K2, hK2, hTI2, eS, eW, hns⟩ := TI.strip K w L hK hTI
      obtain ⟨t1, t2, t3, t4⟩ := TI.top _ _ _ hK2 hTI2
      have tp := (tm_pos K).1
      rw [hlen] at hl hc0
      have h55' : zz s 55 ps.length = (w : Nat) := h55 0 (by rw [hlen]; omega)
      have h55r : ∀ i, i < ps.length → zz s 55 (ps.length - 1 - i) = ((ps.getD i (cNo, 0, [])).2.1 : Nat) := fun i hi => by
        have := h55 (i + 1) (by rw [hlen]; omega)
        rw [hlen, show ps.length + 1 - 1 - (i + 1) = ps.length - 1 - i by omega] at this
        exact this
      have em : ((((K, w, L) :: ps).length : Nat) : Int) + (-1) = (ps.length : Int) := by rw [hlen]; omega
      have hl5 : ps.length + 1 < 500 := by
        by_cases e : cnt = 0
        · have := hc0 e; omega
        · omega
      have cell : ∀ (s : aZ) (sn : List Nat), xWr P rt u s0 s sn → ∀ k j, 46 ≤ k → k ≤ 50 → zz s k j = zz s0 k j := fun s sn h k j a b => zz_of (h.2.2.1 k (by omega) (by omega) (by omega) (by omega) (by omega)) j
      refine w114_15 hB (by omega) _ _ _ s l ⟨fun c => absurd c (by omega), fun _ => ⟨⟨by rw [hlen]; omega, by rw [hlen]; omega⟩, fun c => absurd c (by rw [hlen]; omega), fun _ => ⟨fun c => absurd c (by rw [hlen]; omega), fun _ => ?_⟩⟩⟩
      rw [em, natc, h55', natc, h51, natc, h53]
      refine ⟨⟨by omega, by omega⟩, ⟨by omega, by omega⟩, ⟨by omega, by omega⟩, ⟨by omega, by omega⟩, ?_⟩
      rw [cell s sn hw 49 w (by decide) (by decide), cell s sn hw 46 w (by decide) (by decide)]
      have p49 := h49 w t1.2
      obtain ⟨ty, ety⟩ : ∃ y : Nat, zz s0 49 w = y := ⟨(zz s0 49 w).toNat, by omega⟩
      rw [ety, natc] at t3
      obtain ⟨L2, eL⟩ : ∃ L2, L = ty :: L2 := by
        cases L with
        | nil => rw [List.length_nil] at t4; omega
        | cons a L2 => exact ⟨L2, by rw [show a = ty from t3]⟩
      subst eL
      obtain ⟨hty, hty4⟩ := hL ty (List.mem_append.mpr (Or.inl List.mem_cons_self))
      rw [ety]
      have hw1 : xWr P rt u s0 (zu s 52 cnt (zz s0 46 w)) sn := hw.wh 52 _ _ (by omega)
      refine a_W.imp (x_w54 hB hE hA hP (by omega) l ty at' hty hty4 (by omega) hsn hw1) ?_
      rintro _ ⟨s9, rfl, p1, p2, p3, p4, p5⟩
      have hwl := wrT_len (tN s0 rt ty) sn
      generalize eR : (wrT (tN s0 rt ty) sn).1 = row at *
      generalize eN : (wrT (tN s0 rt ty) sn).2 = sn2 at *
      refine ⟨_, s9, l, rfl, ⟨by omega, by omega⟩, ?_⟩
      have y52 : zz s9 52 cnt = zz s0 46 w := by rw [zz_of (p5 52 (by decide) (by decide) (by decide) (by decide) (by decide))]; exact zz_same _ _ _ (inR_zz _ _ _)
      have y52n : ∀ j, j ≠ cnt → zz s9 52 j = zz s 52 j := fun j hj => by rw [zz_of (p5 52 (by decide) (by decide) (by decide) (by decide) (by decide)), zz_ne _ _ _ _ _ _ (by omega)]
      have yk : ∀ k, (k < 17 ∨ (24 < k ∧ k < 52) ∨ k = 53 ∨ 54 < k) → s9 k = s k := fun k hk => by rw [p5 k (by omega) (by omega) (by omega) (by omega) (by omega), zu_ne _ _ _ _ _ (by omega)]
      have y54 : ∀ j, j < at' → zz s9 54 j = zz s 54 j := fun j hj => by rw [p3 j hj, zz_ne _ _ _ _ _ _ (by omega)]
      have y51 : zz s9 51 4 = (cnt : Nat) := (zz_of (yk 51 (by omega)) 4).trans h51
      rw [y51, show ((cnt : Int) + 1).toNat = cnt + 1 by omega]
      -- the new state
      have hw12 : xWr P rt u s0 (zu (zu s9 53 (cnt + 1) ((at' + row.length : Nat) : Int)) 51 4 ((cnt : Int) + 1)) sn2 := (p1.wh 53 _ _ (by omega)).wh 51 _ _ (by omega)
      have a51 : zz (zu (zu s9 53 (cnt + 1) ((at' + row.length : Nat) : Int)) 51 4 ((cnt : Int) + 1)) 51 4 = ((cnt + 1 : Nat) : Int) := (zz_same _ _ _ ⟨by omega, by omega⟩).trans (by omega)
      have a53 : zz (zu (zu s9 53 (cnt + 1) ((at' + row.length : Nat) : Int)) 51 4 ((cnt : Int) + 1)) 53 (cnt + 1) = ((at' + row.length : Nat) : Int) := by rw [zz_ne _ _ _ _ _ _ (by omega)]; exact zz_same _ _ _ ⟨by omega, by omega⟩
      have a53n : ∀ j, j ≤ cnt → zz (zu (zu s9 53 (cnt + 1) ((at' + row.length : Nat) : Int)) 51 4 ((cnt : Int) + 1)) 53 j = zz s 53 j := fun j hj => by rw [zz_ne _ _ _ _ _ _ (by omega), zz_ne _ _ _ _ _ _ (by omega), zz_of (yk 53 (by omega))]
      have a5x : ∀ k j, k ≠ 51 → k ≠ 53 → zz (zu (zu s9 53 (cnt + 1) ((at' + row.length : Nat) : Int)) 51 4 ((cnt : Int) + 1)) k j = zz s9 k j := fun k j a b => by rw [zz_ne _ _ _ _ _ _ (by omega), zz_ne _ _ _ _ _ _ (by omega)]
      have akk : ∀ k, k ≠ 51 → k ≠ 53 → (zu (zu s9 53 (cnt + 1) ((at' + row.length : Nat) : Int)) 51 4 ((cnt : Int) + 1)) k = s9 k := fun k a b => by rw [zu_ne _ _ _ _ _ a, zu_ne _ _ _ _ _ b]
      generalize (zu (zu s9 53 (cnt + 1) ((at' + row.length : Nat) : Int)) 51 4 ((cnt : Int) + 1)) = s12 at *
      rw [cell s9 sn2 p1 48 w (by decide) (by decide)]
      -- what follows: s14 differs from s12 in cell 55 alone
      have nx : ∀ (ps2 : aPd) (s14 : aZ) (u7 : Value), (∀ k, k ≠ 55 → s14 k = s12 k) → xWr P rt u s0 s14 sn2 → xS5 s14 ps2 → pdW ps2 = m → (∀ q ∈ ps2, coK q.1 ∧ TI s0 1 c q.1 q.2.1 q.2.2) → pdL ((K, w, ty :: L2) :: ps) = ty :: pdL ps2 → pdS ((K, w, ty :: L2) :: ps) = zz s0 46 w :: pdS ps2 → a_W d 114 15 [.ref 51, .ref 45, iv x2, .ref 17, iv (ps2.length : Int), u7] [] (mkH B s14 l) (flP s0 rt ((K, w, ty :: L2) :: ps) cnt at' sn B s l) := by
        intro ps2 s14 u7 g1 g2 g3 g4 g5 g6 g7
        have z14 : ∀ k j, k ≠ 55 → zz s14 k j = zz s12 k j := fun k j hk => zz_of (g1 k hk) j
        refine a_W.imp (ih ps2 (cnt + 1) (at' + row.length) sn2 s14 u7 g4 (by omega) (fun c => absurd c (by omega)) (by omega) p4 g5 (fun k hk => hL k (by rw [g6]; exact List.mem_cons_of_mem _ hk)) g2 ((z14 51 4 (by decide)).trans a51) ((z14 53 (cnt + 1) (by decide)).trans a53) g3) ?_
        rintro _ ⟨s2, rfl, r1, r2, r3, r4, r5, r6, r7⟩
        have r53 : ∀ j, j ≤ cnt → zz s2 53 j = zz s 53 j := fun j hj => by rw [r5 j (by omega), z14 53 j (by decide), a53n j hj]
        have r54 : ∀ j, j < at' + row.length → zz s2 54 j = zz s9 54 j := fun j hj => by rw [r6 j hj, z14 54 j (by decide), a5x 54 j (by decide) (by decide)]
        have r52 : ∀ j, j < cnt + 1 → zz s2 52 j = zz s9 52 j := fun j hj => by rw [r4 j hj, z14 52 j (by decide), a5x 52 j (by decide) (by decide)]
        refine ⟨s2, rfl, by rw [r1, hm, g4]; omega, fun j hj => ?_, ?_, fun j hj => (r52 j (by omega)).trans (y52n j (by omega)), r53, fun j hj => (r54 j (by omega)).trans (y54 j hj), fun k hk => ?_⟩
        · rw [g7]
          cases j with
          | zero => exact (r52 cnt (by omega)).trans y52
          | succ j =>
            rw [show cnt + (j + 1) = cnt + 1 + j by omega]
            exact r2 j (by omega)
        · rw [g6]
          show zz s2 53 cnt = _ ∧ (∀ k, k < (wrT (tN s0 rt ty) sn).1.length → zz s2 54 (at' + k) = (wrT (tN s0 rt ty) sn).1.getD k 0) ∧ RwF 53 54 s2 (wrL ((pdL ps2).map (tN s0 rt)) (wrT (tN s0 rt ty) sn).2).1 (cnt + 1) (at' + (wrT (tN s0 rt ty) sn).1.length)
          rw [eR, eN]
          exact ⟨(r53 cnt (Nat.le_refl _)).trans h53, fun k hk => (r54 _ (by omega)).trans (p2 k hk), r3⟩
        · rw [r7 k hk, g1 k (by omega)]
          by_cases e51 : k = 51
          · omega
          · rw [akk k e51 (by omega)]
            exact yk k (by omega)
      have sw : ∀ ps2 : aPd, pdW ((K, w, ty :: L2) :: ps) = 1 + pdW ps2 → pdW ps2 = m := fun ps2 h => by omega
      -- the parts
      have fin : ∀ (wx wf : Nat) (ps2 : aPd), zz s0 48 w = (wx : Nat) → zz s0 47 w = (wf : Nat) → wx ≤ 501 → wf ≤ 501 → ps2.map (fun q => q.2.1) = (if 0 < wf then [wf] else []) ++ ((if 0 < wx then [wx] else []) ++ ps.map (fun q => q.2.1)) → pdW ps2 = m → (∀ q ∈ ps2, coK q.1 ∧ TI s0 1 c q.1 q.2.1 q.2.2) → pdL ((K, w, ty :: L2) :: ps) = ty :: pdL ps2 → pdS ((K, w, ty :: L2) :: ps) = zz s0 46 w :: pdS ps2 → a_W (d - 1) 118 0 [.ref 51, iv (zz s0 48 w), iv (ps.length : Int)] [] (mkH B s12 l) (fun r => ∃ (v15 : Int) (s13 : Nat → Nat → Int32) (l14 : Nat → Nat → Int64), r = (.inl (some (iv v15)), mkH B s13 l14) ∧ a_W (d - 1) 118 0 [.ref 51, iv (zz s13 47 w), iv v15] [] (mkH B s13 l14) (fun r => ∃ (v18 : Int) (s16 : Nat → Nat → Int32) (l17 : Nat → Nat → Int64), r = (.inl (some (iv v18)), mkH B s16 l17) ∧ a_W d 114 15 [.ref 51, .ref 45, iv x2, .ref 17, iv v18, iv (w : Int)] [] (mkH B s16 l17) (flP s0 rt ((K, w, ty :: L2) :: ps) cnt at' sn B s l))) := by
        intro wx wf ps2 e48 e47 hx hf hmap g4 g5 g6 g7
        rw [e48]
        refine a_W.imp (x_put55 hB l wx hx ps.length (by omega) s12) ?_
        rintro _ rfl
        have hk13 : ∀ k, k ≠ 55 → (if 0 < wx then zu s12 55 ps.length (wx : Int) else s12) k = s12 k := fun k hk => by
          split
          · exact zu_ne _ _ _ _ _ hk
          · rfl
        have hw13 : xWr P rt u s0 (if 0 < wx then zu s12 55 ps.length (wx : Int) else s12) sn2 := by
          split
          · exact hw12.wh 55 _ _ (by omega)
          · exact hw12
        have h13 : ∀ j, zz (if 0 < wx then zu s12 55 ps.length (wx : Int) else s12) 55 j = if 0 < wx ∧ j = ps.length then (wx : Int) else zz s12 55 j := fun j => by
          by_cases q : 0 < wx
          · rw [if_pos q]
            by_cases e : j = ps.length
            · rw [e, if_pos ⟨q, rfl⟩]; exact zz_same _ _ _ ⟨by omega, by omega⟩
            · rw [if_neg (fun c => e c.2), zz_ne _ _ _ _ _ _ (by omega)]
          · rw [if_neg q, if_neg (fun c => q c.1)]
        generalize eD : (if 0 < wx then ps.length + 1 else ps.length) = dp at *
        generalize (if 0 < wx then zu s12 55 ps.length (wx : Int) else s12) = s13 at *
        refine ⟨_, s13, l, rfl, ?_⟩
        rw [cell s13 sn2 hw13 47 w (by decide) (by decide), e47]
        have hdp : dp < 501 := by rw [← eD]; split <;> omega
        refine a_W.imp (x_put55 hB l wf hf dp hdp s13) ?_
        rintro _ rfl
        have elen : ps2.length = if 0 < wf then dp + 1 else dp := by
          have := congrArg List.length hmap
          rw [List.length_map, List.length_append, List.length_append, List.length_map] at this
          rw [this, ← eD]
          by_cases q : 0 < wf
          · by_cases q2 : 0 < wx
            · rw [if_pos q, if_pos q2, if_pos q, if_pos q2]; show 1 + (1 + _) = _; omega
            · rw [if_pos q, if_neg q2, if_pos q, if_neg q2]; show 1 + (0 + _) = _; omega
          · by_cases q2 : 0 < wx
            · rw [if_neg q, if_pos q2, if_neg q, if_pos q2]; show 0 + (1 + _) = _; omega
            · rw [if_neg q, if_neg q2, if_neg q, if_neg q2]; show 0 + (0 + _) = _; omega
        rw [← elen]
        refine ⟨_, _, l, rfl, nx ps2 _ _ (fun k hk => ?_) ?_ (fun i hi => ?_) g4 g5 g6 g7⟩
        · split
          · exact (zu_ne _ _ _ _ _ hk).trans (hk13 k hk)
          · exact hk13 k hk
        · split
          · exact hw13.wh 55 _ _ (by omega)
          · exact hw13
        · have hget : (ps2.getD i (cNo, 0, [])).2.1 = (ps2.map (fun q => q.2.1)).getD i 0 := by
            rw [List.getD_eq_getElem?_getD, List.getD_eq_getElem?_getD, List.getElem?_map]
            cases ps2[i]? with
            | none => rfl
            | some q => rfl
          have hget' : ∀ i, (ps.map (fun q => q.2.1)).getD i 0 = (ps.getD i (cNo, 0, [])).2.1 := fun i => by
            rw [List.getD_eq_getElem?_getD, List.getD_eq_getElem?_getD, List.getElem?_map]
            cases ps[i]? with
            | none => rfl
            | some q => rfl
          have s12_55 : ∀ j, zz s12 55 j = zz s 55 j := fun j => by rw [a5x 55 j (by decide) (by decide), zz_of (yk 55 (by omega))]
          have base : ∀ i, i < ps.length → zz s12 55 (ps.length - 1 - i) = (((ps.map (fun q => q.2.1)).getD i 0 : Nat) : Int) := fun i hi => by rw [s12_55, hget']; exact h55r i hi
          rw [hget, hmap]
          rw [elen] at hi ⊢
          by_cases q : 0 < wf
          · rw [if_pos q] at hi ⊢
            rw [if_pos q, if_pos q]
            cases i with
            | zero => exact zz_same _ _ _ ⟨by omega, by omega⟩
            | succ i =>
              rw [zz_ne _ _ _ _ _ _ (by omega), h13]
              show _ = ((((if 0 < wx then [wx] else []) ++ ps.map (fun q => q.2.1)).getD i 0 : Nat) : Int)
              by_cases q2 : 0 < wx
              · rw [if_pos q2] at eD ⊢
                cases i with
                | zero => rw [if_pos ⟨q2, by omega⟩]; rfl
                | succ i =>
                  rw [if_neg (fun c => by have := c.2; omega), show dp + 1 - 1 - (i + 1 + 1) = ps.length - 1 - i by omega]
                  exact base i (by omega)
              · rw [if_neg q2] at eD ⊢
                rw [if_neg (fun c => q2 c.1), show dp + 1 - 1 - (i + 1) = ps.length - 1 - i by omega]
                exact base i (by omega)
          · rw [if_neg q] at hi ⊢
            rw [if_neg q, if_neg q, h13]
            show _ = ((((if 0 < wx then [wx] else []) ++ ps.map (fun q => q.2.1)).getD i 0 : Nat) : Int)
            by_cases q2 : 0 < wx
            · rw [if_pos q2] at eD ⊢
              cases i with
              | zero => rw [if_pos ⟨q2, by omega⟩]; rfl
              | succ i =>
                rw [if_neg (fun c => by have := c.2; omega), show dp - 1 - (i + 1) = ps.length - 1 - i by omega]
                exact base i (by omega)
            · rw [if_neg q2] at eD ⊢
              rw [if_neg (fun c => q2 c.1), show dp - 1 - i = ps.length - 1 - i by omega]
              exact base i (by omega)
      have psT : ∀ q ∈ ps, coK q.1 ∧ TI s0 1 c q.1 q.2.1 q.2.2 := fun q hq => hT q (List.mem_cons_of_mem _ hq)
      have eS' : pdS ((K, w, ty :: L2) :: ps) = syK K2 ++ pdS ps := by rw [eS]; rfl
      have eW' : pdW ((K, w, ty :: L2) :: ps) = tmW K2 + pdW ps := by rw [eW]; rfl
      cases K2 with
      | leaf q =>
        obtain ⟨-, g46, g47, g48, -, gL⟩ := hTI2
        have hL2 : L2 = [] := (List.cons.inj gL).2
        subst hL2
        have hq := (lf_w q hK2).1
        refine fin 0 0 ps g48 g47 (by omega) (by omega) rfl (sw ps (by rw [eW', hq])) psT rfl ?_
        rw [eS', g46]
        rfl
      | branch e a b =>
        rcases hK2 with ⟨rfl, ka, kb⟩ | ⟨rfl, ka⟩ | ⟨rfl, kb⟩
        · obtain ⟨-, g46, -, wf, wx, Lf, Lx, g47, g48, gf, gx, gL⟩ := TI_ap.mp hTI2
          have hL2 : L2 = Lf ++ Lx := (List.cons.inj gL).2
          subst hL2
          obtain ⟨f1, -⟩ := TI.top _ _ _ ka gf
          obtain ⟨x1, -⟩ := TI.top _ _ _ kb gx
          refine fin wx wf ((a, wf, Lf) :: (b, wx, Lx) :: ps) g48 g47 (by omega) (by omega) (by rw [if_pos (by omega), if_pos (by omega)]; rfl) (sw _ (by rw [eW']; show 1 + (tmW a + tmW b) + _ = 1 + (tmW a + (tmW b + _)); omega)) (fun q hq => ?_) ?_ ?_
          · rcases List.mem_cons.mp hq with rfl | hq
            · exact ⟨ka, gf⟩
            · rcases List.mem_cons.mp hq with rfl | hq
              · exact ⟨kb, gx⟩
              · exact psT q hq
          · show ty :: (Lf ++ Lx) ++ pdL ps = ty :: (Lf ++ (Lx ++ pdL ps))
            rw [List.cons_append, List.append_assoc]
          · rw [eS', g46]
            show -1 :: (syK a ++ syK b) ++ pdS ps = -1 :: (syK a ++ (syK b ++ pdS ps))
            rw [List.cons_append, List.append_assoc]
        · exact absurd rfl (hns a b)
        · obtain ⟨-, g46, -, g48, wb, Lb, g47, gb, gL⟩ := TI_ab.mp hTI2
          have hL2 : L2 = Lb := (List.cons.inj gL).2
          subst hL2
          obtain ⟨b1, -⟩ := TI.top _ _ _ kb gb
          refine fin 0 wb ((b, wb, L2) :: ps) g48 g47 (by omega) (by omega) (by rw [if_pos (by omega)]; rfl) (sw _ (by rw [eW']; show 1 + tmW b + _ = 1 + (tmW b + _); omega)) (fun q hq => ?_) rfl ?_
          · rcases List.mem_cons.mp hq with rfl | hq
            · exact ⟨kb, gb⟩
            · exact psT q hq
          · rw [eS', g46]
            rfl
end
