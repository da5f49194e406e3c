/-! THE READER WRITES A TYPE: the loop -/
section
variable {B : aH} {P : Nat} {rt u : Nat → Nat} {s0 : aZ}
theorem xWr.hv {s s2 : aZ} {sn : List Nat} (h : xWr P rt u s0 s sn) (a : Hv P s s2) : xWr P rt u s0 s2 sn := by
  obtain ⟨h1, h2, h3, h4, h5, h6⟩ := h
  obtain ⟨g1, g2, -, -⟩ := a.uf h2 h1
  exact ⟨g2, g1, fun k a1 a2 a3 a4 a5 => (a.k k a3).trans (h3 k a1 a2 a3 a4 a5), (zz_of (a.k 17 (by decide)) 9).trans h4, fun k hk => (zz_of (a.k 18 (by decide)) k).trans (h5 k hk), h6⟩
theorem xWr.wr {s : aZ} {sn : List Nat} (h : xWr P rt u s0 s sn) (c j : Nat) (x : Int) (hc : c = 24 ∨ c = 54) : xWr P rt u s0 (zu s c j x) sn := by
  obtain ⟨h1, h2, h3, h4, h5, h6⟩ := h
  have e : vwX (zu s c j x) = vwX s := vwX_of (fun k k1 k2 i => zz_ne _ _ _ _ _ _ (by omega))
  exact ⟨fun i hi => by rw [zz_ne _ _ _ _ _ _ (by omega)]; exact h1 i hi, by rw [e]; exact h2, fun k a1 a2 a3 a4 a5 => (zu_ne _ _ _ _ _ (by omega)).trans (h3 k a1 a2 a3 a4 a5), by rw [zz_ne _ _ _ _ _ _ (by omega)]; exact h4, fun k hk => by rw [zz_ne _ _ _ _ _ _ (by omega)]; exact h5 k hk, h6⟩
theorem xWr.new {s : aZ} {sn : List Nat} (h : xWr P rt u s0 s sn) {r : Nat} (hr : r < P) (hrr : rt r = r) (hu : zz s0 18 r = unX) (hn : ¬ ixV sn r < sn.length) (hl : sn.length < 20000) : xWr P rt u s0 (zu (zu s 18 r (-1 - (sn.length : Int))) 17 9 ((sn.length : Int) + 1)) (sn ++ [r]) := by
  obtain ⟨h1, h2, h3, h4, h5, h6, h7⟩ := h
  have z : ∀ k j, k ≠ 17 → k ≠ 18 → zz (zu (zu s 18 r (-1 - (sn.length : Int))) 17 9 ((sn.length : Int) + 1)) k j = zz s k j := fun k j a b => by rw [zz_ne _ _ _ _ _ _ (by omega), zz_ne _ _ _ _ _ _ (by omega)]
  have hle := ixV_le sn
  have hlen : (sn ++ [r]).length = sn.length + 1 := by rw [List.length_append]; rfl
  refine ⟨fun i hi => by rw [z 21 i (by decide) (by decide)]; exact h1 i hi, fun k hk => ?_, fun k a1 a2 a3 a4 a5 => by rw [zu_ne _ _ _ _ _ a1, zu_ne _ _ _ _ _ a2]; exact h3 k a1 a2 a3 a4 a5, by rw [hlen, zz_same _ _ _ ⟨by omega, by omega⟩]; rfl, fun k hk => ?_, by rw [hlen]; omega, fun k hk => ?_⟩
  · have e : (vwX (zu (zu s 18 r (-1 - (sn.length : Int))) 17 9 ((sn.length : Int) + 1))).1 = (vwX s).1 := funext fun i => by show (zz _ 21 i).toNat = (zz s 21 i).toNat; rw [z 21 i (by decide) (by decide)]
    have e2 : nR P (vwX (zu (zu s 18 r (-1 - (sn.length : Int))) 17 9 ((sn.length : Int) + 1))) = nR P (vwX s) := by unfold nR; rw [e]
    have := h2 k hk
    rw [e, e2]
    exact this
  · rw [zz_ne _ _ _ _ _ _ (by omega), hlen, ixV_snoc]
    by_cases e : k = r
    · subst e
      rw [zz_same _ _ _ ⟨by omega, by omega⟩, if_neg hn, if_pos rfl, if_pos (by omega)]
    · rw [zz_ne _ _ _ _ _ _ (by omega), h5 k hk]
      by_cases q : ixV sn k < sn.length
      · rw [if_pos q, if_pos q, if_pos (by omega)]
      · rw [if_neg q, if_neg q, if_neg (show ¬ r = k from fun c => e c.symm), if_neg (by omega)]
  · rw [hlen, ixV_snoc]
    intro q
    by_cases e : k = r
    · subst e; exact ⟨hu, hrr⟩
    · by_cases q2 : ixV sn k < sn.length
      · exact h7 k hk q2
      · rw [if_neg q2, if_neg (show ¬ r = k from fun c => e c.symm)] at q
        omega
def wrP (s0 : aZ) (rt : Nat → Nat) (P : Nat) (u : Nat → Nat) (W : List Nat) (at' : Nat) (sn : List Nat) (B : aH) (s : aZ) (l : aZL) (q : aR) : Prop := ∃ s2, q = (.inl (some (iv ((at' + szN (W.map (tN s0 rt)) : Nat) : Int))), mkH B s2 l) ∧ xWr P rt u s0 s2 (wrN (W.map (tN s0 rt)) sn).2 ∧ (∀ j, j < szN (W.map (tN s0 rt)) → zz s2 54 (at' + j) = (wrN (W.map (tN s0 rt)) sn).1.getD j 0) ∧ (∀ j, j < at' → zz s2 54 j = zz s 54 j) ∧ (∀ k, k ≠ 17 → k ≠ 18 → k ≠ 21 → k ≠ 24 → k ≠ 54 → s2 k = s k)
theorem len_szN {ar : Int → Nat} (hE : PE ar P s0 rt u) (hA : AcP unX P (vwX s0) rt (fun k => (zz s0 23 k).toNat)) : ∀ W : List Nat, (∀ k ∈ W, k < P) → W.length ≤ szN (W.map (tN s0 rt)) := by
  intro W
  induction W with
  | nil => intro _; exact Nat.le_refl _
  | cons k W ih =>
    intro h
    have h1 : 1 ≤ szT (tN s0 rt k) := tX_sz hE hA (h k List.mem_cons_self)
    have h2 := ih (fun q hq => h q (List.mem_cons_of_mem _ hq))
    show W.length + 1 ≤ szT (tN s0 rt k) + szN (W.map (tN s0 rt))
    omega
theorem x_wloop (hB : a_Can B) {ar : Int → Nat} (hE : PE ar P s0 rt u) (hA : AcP unX P (vwX s0) rt (fun k => (zz s0 23 k).toNat)) (hP : P ≤ 17000) {d : Nat} (hd : 1 ≤ d) (l : aZL) (x1 x3 : Int) : ∀ (m : Nat) (W : List Nat) (at' : Nat) (sn : List Nat) (s : aZ) (u6 : Value), szN (W.map (tN s0 rt)) ≤ m → at' + szN (W.map (tN s0 rt)) ≤ 20000 → szN (W.map (tN s0 rt)) ≤ 16000 → (∀ k ∈ W, k < P) → sn.length ≤ at' → xWr P rt u s0 s sn → xSt s W → a_W d 115 13 [.ref 17, iv x1, .ref 54, iv x3, iv (W.length : Int), iv (at' : Int), u6] [] (mkH B s l) (wrP s0 rt P u W at' sn B s l) := by
  have hPS := hE.1.2.2.2
  intro m
  induction m with
  | zero =>
    intro W at' sn s u6 hm h2 h6 hW hsn hw hk
    have hl := len_szN hE hA W hW
    have e : W = [] := List.eq_nil_of_length_eq_zero (by omega)
    subst e
    have en : a_W d 115 95 [.ref 17, iv x1, .ref 54, iv x3, iv (([] : List Nat).length : Int), iv (at' : Int), u6] [] (mkH B s l) (wrP s0 rt P u [] at' sn B s l) := w115f_95 hB _ _ _ _ _ s l ⟨s, rfl, hw, fun j hj => absurd hj (Nat.not_lt_zero _), fun _ _ => rfl, fun _ _ _ _ _ _ => rfl⟩
    exact w115f_13 hB (by omega) _ _ _ _ _ s l ⟨⟨by omega, by omega⟩, fun _ => en, fun _ => ⟨by decide, fun _ => en, fun c => absurd c (by decide)⟩⟩
  | succ m ih =>
    intro W at' sn s u6 hm h2 h6 hW hsn hw hk
    have hl := len_szN hE hA W hW
    cases W with
    | nil =>
      have en : a_W d 115 95 [.ref 17, iv x1, .ref 54, iv x3, iv (([] : List Nat).length : Int), iv (at' : Int), u6] [] (mkH B s l) (wrP s0 rt P u [] at' sn B s l) := w115f_95 hB _ _ _ _ _ s l ⟨s, rfl, hw, fun j hj => absurd hj (Nat.not_lt_zero _), fun _ _ => rfl, fun _ _ _ _ _ _ => rfl⟩
      exact w115f_13 hB (by omega) _ _ _ _ _ s l ⟨⟨by omega, by omega⟩, fun _ => en, fun _ => ⟨by decide, fun _ => en, fun c => absurd c (by decide)⟩⟩
    | cons k W =>
      have hlen : (k :: W).length = W.length + 1 := rfl
      have hkP := hW k List.mem_cons_self
      have hW' : ∀ q ∈ W, q < P := fun q hq => hW q (List.mem_cons_of_mem _ hq)
      have esz : szN ((k :: W).map (tN s0 rt)) = szT (tN s0 rt k) + szN (W.map (tN s0 rt)) := rfl
      have s1 : 1 ≤ szT (tN s0 rt k) := tX_sz hE hA hkP
      rw [hlen] at hl
      have htop : zz s 24 W.length = (k : Nat) := hk 0 (by rw [hlen]; omega)
      have hkW : ∀ i, i < W.length → zz s 24 (W.length - 1 - i) = (W.getD i 0 : Nat) := fun i hi => by
        have := hk (i + 1) (by rw [hlen]; omega)
        rw [hlen, show W.length + 1 - 1 - (i + 1) = W.length - 1 - i by omega] at this
        exact this
      have em : (((k :: W).length : Nat) : Int) + (-1) = (W.length : Int) := by rw [hlen]; omega
      refine w115f_13 hB (by omega) _ _ _ _ _ s l ⟨⟨by omega, by omega⟩, fun c => absurd c (by omega), fun _ => ⟨⟨by rw [hlen]; omega, by rw [hlen]; omega⟩, fun c => absurd c (by rw [hlen]; omega), fun _ => ⟨fun c => absurd c (by rw [hlen]; omega), fun _ => ?_⟩⟩⟩
      rw [em, natc, htop]
      refine ⟨⟨by omega, by omega⟩, a_W.imp (x_findU hB l P hP k s hkP hw.1 hw.2.1) ?_⟩
      rintro _ ⟨s7, rfl, hv⟩
      have hw7 := hw.hv hv
      obtain ⟨q1, q2⟩ := rt_rt hw.2.1 hkP
      have hPr := hPS _ q1
      refine ⟨_, s7, l, rfl, ⟨by omega, by omega⟩, ?_⟩
      rw [natc, natc]
      have e19 : zz s7 19 (rt k) = zz s0 19 (rt k) := zz_of (hw7.2.2.1 19 (by decide) (by decide) (by decide) (by decide) (by decide)) _
      have e20 : zz s7 20 (rt k) = zz s0 20 (rt k) := zz_of (hw7.2.2.1 20 (by decide) (by decide) (by decide) (by decide) (by decide)) _
      have e18 := hw7.2.2.2.2.1 _ q1
      have y24 : ∀ j, zz s7 24 j = zz s 24 j := fun j => zz_of (hv.k 24 (by decide)) j
      have y54 : ∀ j, zz s7 54 j = zz s 54 j := fun j => zz_of (hv.k 54 (by decide)) j
      rw [e19, e20]
      -- what follows
      have fin : ∀ (W2 sn2 : List Nat) (s8 : aZ) (c0 : Int) (u7 : Value), zz s8 54 at' = c0 → (∀ j, j ≠ at' → zz s8 54 j = zz s 54 j) → (∀ k, k ≠ 17 → k ≠ 18 → k ≠ 21 → k ≠ 24 → k ≠ 54 → s8 k = s k) → xWr P rt u s0 s8 sn2 → xSt s8 W2 → (∀ q ∈ W2, q < P) → sn2.length ≤ at' + 1 → wrN ((k :: W).map (tN s0 rt)) sn = (c0 :: (wrN (W2.map (tN s0 rt)) sn2).1, (wrN (W2.map (tN s0 rt)) sn2).2) → szN ((k :: W).map (tN s0 rt)) = 1 + szN (W2.map (tN s0 rt)) → a_W d 115 13 [.ref 17, iv x1, .ref 54, iv x3, iv (W2.length : Int), iv ((at' : Int) + 1), u7] [] (mkH B s8 l) (wrP s0 rt P u (k :: W) at' sn B s l) := by
        intro W2 sn2 s8 c0 u7 g1 g2 g3 g4 g5 g6 g9 g7 g8
        rw [show (at' : Int) + 1 = ((at' + 1 : Nat) : Int) by omega]
        refine a_W.imp (ih W2 (at' + 1) sn2 s8 u7 (by omega) (by omega) (by omega) g6 g9 g4 g5) ?_
        rintro _ ⟨s9, rfl, p1, p2, p3, p4⟩
        refine ⟨s9, ?_, by rw [g7]; exact p1, fun j hj => ?_, fun j hj => (p3 j (by omega)).trans (g2 j (by omega)), fun k a b c d e => (p4 k a b c d e).trans (g3 k a b c d e)⟩
        · rw [g8, show at' + 1 + szN (W2.map (tN s0 rt)) = at' + (1 + szN (W2.map (tN s0 rt))) by omega]
        · rw [g7]
          cases j with
          | zero => exact (p3 at' (by omega)).trans g1
          | succ j =>
            rw [show at' + (j + 1) = at' + 1 + j by omega]
            exact p2 j (by omega)
      have hW24 : ∀ (s8 : aZ), (∀ j, j < W.length → zz s8 24 j = zz s 24 j) → xSt s8 W := fun s8 h i hi => by
        rw [h _ (by omega)]
        exact hkW i hi
      by_cases hu : zz s0 18 (rt k) = unX
      · obtain ⟨u1, u2⟩ := (hE.2.2.1.2 _ q1).2 hu
        have u1 : zz s0 19 (rt k) < 0 := u1
        have u2 : zz s0 20 (rt k) < 0 := u2
        have eT : tN s0 rt k = vrT (rt k) := tX_u hu
        have esz1 : szN ((k :: W).map (tN s0 rt)) = 1 + szN (W.map (tN s0 rt)) := by
          rw [esz, eT]
          rfl
        have ewr : wrN ((k :: W).map (tN s0 rt)) sn = wrN (vrT (rt k) :: W.map (tN s0 rt)) sn := by
          rw [List.map_cons, eT]
        by_cases hin : ixV sn (rt k) < sn.length
        · rw [if_pos hin] at e18
          have hlt := hw.2.2.2.2.2.1
          refine ⟨fun _ => ⟨⟨by omega, by omega⟩, fun c => absurd c (by omega), fun _ => ⟨fun c => absurd c (by omega), fun _ => ?_⟩⟩, fun c => absurd c (by rw [e18]; omega)⟩
          rw [e18]
          refine fin W sn _ (-1 - (ixV sn (rt k) : Int)) _ (zz_same _ _ _ ⟨by omega, by omega⟩) (fun j hj => by rw [zz_ne _ _ _ _ _ _ (by omega), y54]) (fun q a b c d e => by rw [zu_ne _ _ _ _ _ e]; exact hv.k q c) (hw7.wr 54 _ _ (by omega)) (hW24 _ (fun j _ => by rw [zz_ne _ _ _ _ _ _ (by omega), y24])) hW' (by omega) ?_ esz1
          rw [ewr, wrN_v, if_pos hin]
        · rw [if_neg hin, hu] at e18
          have e9 := hw7.2.2.2.1
          refine ⟨fun c => absurd e18 c, fun _ => ⟨⟨by omega, by omega⟩, fun c => absurd c (by omega), fun _ => ⟨fun c => absurd c (by omega), fun _ => ?_⟩⟩⟩
          rw [e9]
          have hw8 := hw7.new q1 q2 hu hin (by omega)
          refine fin W (sn ++ [rt k]) _ (-1 - (sn.length : Int)) _ (zz_same _ _ _ ⟨by omega, by omega⟩) (fun j hj => by rw [zz_ne _ _ _ _ _ _ (by omega), zz_ne _ _ _ _ _ _ (by omega), zz_ne _ _ _ _ _ _ (by omega), y54]) (fun q a b c d e => by rw [zu_ne _ _ _ _ _ e, zu_ne _ _ _ _ _ a, zu_ne _ _ _ _ _ b]; exact hv.k q c) (hw8.wr 54 _ _ (by omega)) (hW24 _ (fun j _ => by rw [zz_ne _ _ _ _ _ _ (by omega), zz_ne _ _ _ _ _ _ (by omega), zz_ne _ _ _ _ _ _ (by omega), y24])) hW' (by rw [List.length_append]; show sn.length + 1 ≤ _; omega) ?_ esz1
          rw [ewr, wrN_v, if_neg hin]
      · have hin : ¬ ixV sn (rt k) < sn.length := fun c => hu (hw.2.2.2.2.2.2 _ q1 c).1
        rw [if_neg hin] at e18
        have eT : tN s0 rt k = .branch (enc (zz s0 18 (rt k))) (tX s0 rt (zz s0 19 (rt k))) (tX s0 rt (zz s0 20 (rt k))) := tX_b hE hA hkP hu
        have hcd : dec (enc (zz s0 18 (rt k))) = zz s0 18 (rt k) := dec_enc (hE.2.2.1.1 _ q1).2.2
        have esz1 : szN ((k :: W).map (tN s0 rt)) = 1 + szN (tX s0 rt (zz s0 19 (rt k)) :: tX s0 rt (zz s0 20 (rt k)) :: W.map (tN s0 rt)) := by
          rw [esz, eT]
          show 1 + (_ + _) + _ = 1 + (_ + (_ + _))
          omega
        have ewr : wrN ((k :: W).map (tN s0 rt)) sn = (zz s0 18 (rt k) :: (wrN (tX s0 rt (zz s0 19 (rt k)) :: tX s0 rt (zz s0 20 (rt k)) :: W.map (tN s0 rt)) sn).1, (wrN (tX s0 rt (zz s0 19 (rt k)) :: tX s0 rt (zz s0 20 (rt k)) :: W.map (tN s0 rt)) sn).2) := by
          rw [List.map_cons, eT, wrN_b, hcd]
        have ir := inR_zz s0 18 (rt k)
        rw [e18]
        refine ⟨fun _ => ⟨⟨by omega, by omega⟩, fun g0 => ⟨fun f0 => ⟨⟨by omega, by omega⟩, ?_⟩, fun f0 => ?_⟩, fun g0 => ⟨fun f0 => ?_, fun f0 => ?_⟩⟩, fun c => absurd c hu⟩
        · obtain ⟨f, ef⟩ : ∃ y : Nat, zz s0 19 (rt k) = y := ⟨(zz s0 19 (rt k)).toNat, by omega⟩
          obtain ⟨g, eg⟩ : ∃ y : Nat, zz s0 20 (rt k) = y := ⟨(zz s0 20 (rt k)).toNat, by omega⟩
          rw [ef, eg] at esz1 ewr hPr ⊢
          rw [show ((W.length : Int) + 1).toNat = W.length + 1 by omega, show (W.length : Int) + 1 + 1 = (((f :: g :: W).length : Nat) : Int) by rw [List.length_cons, List.length_cons]; omega]
          refine fin (f :: g :: W) sn _ (zz s0 18 (rt k)) _ (by rw [zz_ne _ _ _ _ _ _ (by omega), zz_ne _ _ _ _ _ _ (by omega)]; exact zz_same _ _ _ ir) (fun j hj => by rw [zz_ne _ _ _ _ _ _ (by omega), zz_ne _ _ _ _ _ _ (by omega), zz_ne _ _ _ _ _ _ (by omega), y54]) (fun q a b c d e => by rw [zu_ne _ _ _ _ _ d, zu_ne _ _ _ _ _ d, zu_ne _ _ _ _ _ e]; exact hv.k q c) (((hw7.wr 54 _ _ (by omega)).wr 24 _ _ (by omega)).wr 24 _ _ (by omega)) (fun i hi => ?_) (fun q hq => ?_) (by omega) ewr esz1
          · rw [List.length_cons, List.length_cons] at hi ⊢
            cases i with
            | zero => exact zz_same _ _ _ ⟨by omega, by omega⟩
            | succ i =>
              cases i with
              | zero =>
                rw [show W.length + 1 + 1 - 1 - (0 + 1) = W.length by omega, zz_ne _ _ _ _ _ _ (by omega)]
                exact zz_same _ _ _ ⟨by omega, by omega⟩
              | succ i =>
                rw [show W.length + 1 + 1 - 1 - (i + 1 + 1) = W.length - 1 - i by omega, zz_ne _ _ _ _ _ _ (by omega), zz_ne _ _ _ _ _ _ (by omega), zz_ne _ _ _ _ _ _ (by omega), y24]
                exact hkW i (by omega)
          · rcases List.mem_cons.mp hq with rfl | hq
            · omega
            · rcases List.mem_cons.mp hq with rfl | hq
              · omega
              · exact hW' q hq
        · obtain ⟨g, eg⟩ : ∃ y : Nat, zz s0 20 (rt k) = y := ⟨(zz s0 20 (rt k)).toNat, by omega⟩
          rw [tX_n f0, eg] at esz1 ewr
          rw [eg] at hPr ⊢
          rw [show (W.length : Int) + 1 = (((g :: W).length : Nat) : Int) by rw [List.length_cons]; omega]
          refine fin (g :: W) sn _ (zz s0 18 (rt k)) _ (by rw [zz_ne _ _ _ _ _ _ (by omega)]; exact zz_same _ _ _ ir) (fun j hj => by rw [zz_ne _ _ _ _ _ _ (by omega), zz_ne _ _ _ _ _ _ (by omega), y54]) (fun q a b c d e => by rw [zu_ne _ _ _ _ _ d, zu_ne _ _ _ _ _ e]; exact hv.k q c) ((hw7.wr 54 _ _ (by omega)).wr 24 _ _ (by omega)) (fun i hi => ?_) (fun q hq => ?_) (by omega) ewr (esz1.trans (by show 1 + (0 + szN (tX s0 rt (g : Int) :: W.map (tN s0 rt))) = 1 + szN (tX s0 rt (g : Int) :: W.map (tN s0 rt)); omega))
          · rw [List.length_cons] at hi ⊢
            cases i with
            | zero => exact zz_same _ _ _ ⟨by omega, by omega⟩
            | succ i =>
              rw [show W.length + 1 - 1 - (i + 1) = W.length - 1 - i by omega, zz_ne _ _ _ _ _ _ (by omega), zz_ne _ _ _ _ _ _ (by omega), y24]
              exact hkW i (by omega)
          · rcases List.mem_cons.mp hq with rfl | hq
            · omega
            · exact hW' q hq
        · obtain ⟨f, ef⟩ : ∃ y : Nat, zz s0 19 (rt k) = y := ⟨(zz s0 19 (rt k)).toNat, by omega⟩
          rw [tX_n g0, ef] at esz1 ewr
          rw [ef] at hPr ⊢
          rw [show (W.length : Int) + 1 = (((f :: W).length : Nat) : Int) by rw [List.length_cons]; omega]
          refine fin (f :: W) sn _ (zz s0 18 (rt k)) _ (by rw [zz_ne _ _ _ _ _ _ (by omega)]; exact zz_same _ _ _ ir) (fun j hj => by rw [zz_ne _ _ _ _ _ _ (by omega), zz_ne _ _ _ _ _ _ (by omega), y54]) (fun q a b c d e => by rw [zu_ne _ _ _ _ _ d, zu_ne _ _ _ _ _ e]; exact hv.k q c) ((hw7.wr 54 _ _ (by omega)).wr 24 _ _ (by omega)) (fun i hi => ?_) (fun q hq => ?_) (by omega) ewr (esz1.trans (by show 1 + (szT (tX s0 rt (f : Int)) + (0 + szN (W.map (tN s0 rt)))) = 1 + (szT (tX s0 rt (f : Int)) + szN (W.map (tN s0 rt))); omega))
          · rw [List.length_cons] at hi ⊢
            cases i with
            | zero => exact zz_same _ _ _ ⟨by omega, by omega⟩
            | succ i =>
              rw [show W.length + 1 - 1 - (i + 1) = W.length - 1 - i by omega, zz_ne _ _ _ _ _ _ (by omega), zz_ne _ _ _ _ _ _ (by omega), y24]
              exact hkW i (by omega)
          · rcases List.mem_cons.mp hq with rfl | hq
            · omega
            · exact hW' q hq
        · rw [tX_n g0, tX_n f0] at esz1 ewr
          refine fin W sn _ (zz s0 18 (rt k)) _ (zz_same _ _ _ ir) (fun j hj => by rw [zz_ne _ _ _ _ _ _ (by omega), y54]) (fun q a b c d e => by rw [zu_ne _ _ _ _ _ e]; exact hv.k q c) (hw7.wr 54 _ _ (by omega)) (hW24 _ (fun j _ => by rw [zz_ne _ _ _ _ _ _ (by omega), y24])) hW' (by omega) ewr (esz1.trans (by show 1 + (0 + (0 + _)) = 1 + _; omega))
end
