/-! THE READER'S CALL term, behind the opening of its text -/
/-- a term is shown: its symbols, a row for each one's type -/
def ShR (s : aZ) (ss : List Int) (rs : List (List Int)) : Prop := zz s 51 4 = (ss.length : Nat) ∧ (∀ j, j < ss.length → zz s 52 j = ss.getD j 0) ∧ RwF 53 54 s rs 0 0
section
variable {t : Nat → Int} {n : Nat} {ns tn : List (List Int)} {ta : List Int} {cn : List (List Int)} {ct : List aT} {B : aH}
theorem x_fill (hB : a_Can B) {d : Nat} (hd : 2 ≤ d) (l : aZL) {K : aT} {P c w : Nat} {s : aZ} (hk : coK K) (hP : P ≤ 17000) (hc : c ≤ 501) (hW : tmW K ≤ 500) (h49 : ∀ j, j < c → 0 ≤ zz s 49 j) (h53 : zz s 53 0 = 0) (h9 : zz s 17 9 = 0) (hF : XFl t n ns tn ta ct K P c w s) : a_W d 114 0 [.ref 51, .ref 45, iv (w : Int), .ref 17, .retAddr 0, .retAddr 0] [] (mkH B s l) (fun q => ∃ (s2 : aZ) (R0 : List aT), q = (.inl none, mkH B s2 l) ∧ prR t n ns tn ct K R0 ∧ ShR s2 (syK K) (wrL R0 []).1 ∧ ∀ k, (k < 17 ∨ (24 < k ∧ k < 51) ∨ 55 < k) → s2 k = s k) := by
  obtain ⟨rt, u, L, hE, hA, hT, hL, hpr, hlg⟩ := hF
  have e : ∀ k, rvX s rt k = tN s rt k := fun k => by
    unfold rvX tN tX
    rw [natc]
  have em : L.map (rvX s rt) = L.map (tN s rt) := List.map_congr_left (fun k _ => e k)
  rw [em] at hpr hlg
  obtain ⟨t1, -⟩ := TI.top _ _ _ hk hT
  have sz : ∀ k ∈ L, k < P ∧ szT (tN s rt k) ≤ 40 := fun k hk => ⟨hL k hk, Decidable.byContradiction (fun c => hlg ⟨_, List.mem_map.mpr ⟨k, hk, rfl⟩, Or.inl (by omega)⟩)⟩
  have eL : pdL [(K, w, L)] = L := List.append_nil L
  have eS : pdS [(K, w, L)] = syK K := List.append_nil _
  have eW : pdW [(K, w, L)] = tmW K := rfl
  refine w114_0 hB _ s l ?_
  have z : ∀ k j, k ≠ 51 → k ≠ 55 → zz (zu (zu s 51 4 0) 55 0 (w : Int)) k j = zz s k j := fun k j a b => by rw [zz_ne _ _ _ _ _ _ (by omega), zz_ne _ _ _ _ _ _ (by omega)]
  have zk : ∀ k, k ≠ 51 → k ≠ 55 → (zu (zu s 51 4 0) 55 0 (w : Int)) k = s k := fun k a b => by rw [zu_ne _ _ _ _ _ b, zu_ne _ _ _ _ _ a]
  have hw0 : xWr P rt u s s [] := ⟨hE.1.2.2.1, hE.2.1, fun _ _ _ _ _ _ => rfl, h9, fun k _ => (if_neg (Nat.not_lt_zero _)).symm, Nat.zero_le _, fun k _ c => absurd c (Nat.not_lt_zero _)⟩
  have hw : xWr P rt u s (zu (zu s 51 4 0) 55 0 (w : Int)) [] := (hw0.wh 51 _ _ (by omega)).wh 55 _ _ (by omega)
  have a51 : zz (zu (zu s 51 4 0) 55 0 (w : Int)) 51 4 = ((0 : Nat) : Int) := by rw [zz_ne _ _ _ _ _ _ (by omega)]; exact zz_same _ _ _ (by decide)
  have hS5 : xS5 (zu (zu s 51 4 0) 55 0 (w : Int)) [(K, w, L)] := fun i hi => by
    have : i = 0 := by have : i < 1 := hi; omega
    subst this
    exact zz_same _ _ _ ⟨by omega, by omega⟩
  generalize (zu (zu s 51 4 0) 55 0 (w : Int)) = s1 at *
  refine a_W.imp (x_floop hB hE hA hP hd l (w : Int) c hc h49 (tmW K) [(K, w, L)] 0 0 [] s1 _ eW (by omega) (fun _ => Nat.le_refl _) (Nat.zero_le _) (Nat.zero_le _) (fun q hq => by rw [List.mem_singleton.mp hq]; exact ⟨hk, hT⟩) (by rw [eL]; exact sz) hw a51 ((z 53 0 (by decide) (by decide)).trans h53) hS5) ?_
  rintro _ ⟨s2, rfl, r1, r2, r3, -, -, -, r7⟩
  rw [eS] at r2
  rw [eW] at r1 r2
  rw [eL] at r3
  have hl := syK_len K hk
  refine ⟨s2, _, rfl, hpr, ⟨by rw [r1, hl]; omega, fun j hj => ?_, r3⟩, fun k hk => (r7 k hk).trans (zk k (by omega) (by omega))⟩
  have := r2 j (by omega)
  rw [Nat.zero_add] at this
  exact this
/-- what a call leaves -/
def TmF (s s2 : aZ) : Prop := (∀ k, (k = 0 ∨ k = 2 ∨ (8 ≤ k ∧ k ≤ 16) ∨ (25 ≤ k ∧ k ≤ 33) ∨ 56 ≤ k) → s2 k = s k) ∧ (∀ j, j ∉ [4, 6, 7, 8, 9, 10, 11] → zz s2 1 j = zz s 1 j) ∧ (zz s2 47 0 = 0 ∧ zz s2 48 0 = 0 ∧ zz s2 49 0 = 0 ∧ zz s2 50 0 = 0)
/-- what the call comes to -/
def TmX (t : Nat → Int) (n : Nat) (ns tn : List (List Int)) (ta : List Int) (cn : List (List Int)) (ct : List aT) (res : (Int × Nat) ⊕ (aT × Nat)) (B : aH) (s : aZ) (l : aZL) (q : aR) : Prop := ∃ s2, TmF s s2 ∧ ((∃ f j, res = .inl (f, j) ∧ q = (.inl (some (iv (-1))), mkH B s2 l) ∧ XFt t n ns f j s2 ∧ ∀ k, 51 ≤ k → k ≤ 55 → s2 k = s k) ∨ (∃ T j, res = .inr (T, j) ∧ ((∃ fv, fv ≠ 0 ∧ Vd t n ns tn ta ct T (rsv t n cn T []) fv ∧ q = (.inl (some (iv (-1))), mkH B s2 l) ∧ XF t n fv (stT t n 0) (nsT t n ns (j + 1)) s2 ∧ ∀ k, 51 ≤ k → k ≤ 55 → s2 k = s k) ∨ (Vd t n ns tn ta ct T (rsv t n cn T []) 0 ∧ ∃ R0, prR t n ns tn ct (rsv t n cn T []) R0 ∧ q = (.inl (some (iv (tmW T : Int))), mkH B s2 l) ∧ XC t n ns j s2 ∧ ShR s2 (syK (rsv t n cn T [])) (wrL R0 []).1))))
theorem XC.who {i : Nat} {s : aZ} (h : XC t n ns i s) (f : Int) (hf : f ≠ 0) (hr : inR f) (h5 : zz s 1 5 = stT t n 0) : XF t n f (stT t n 0) (nsT t n ns (i + 1)) (zu (zu (zu s 1 10 f) 1 11 (zz s 1 5)) 1 6 0) ∧ FrX s (zu (zu (zu s 1 10 f) 1 11 (zz s 1 5)) 1 6 0) := by
  obtain ⟨x1, x2, x3, x4, x5, x6, x7, x8, x9, x10⟩ := h
  have f1 : Fr1 [6, 10, 11] s (zu (zu (zu s 1 10 f) 1 11 (zz s 1 5)) 1 6 0) := fl_fr (Fr1.rf _ s) _ _ (by decide) (by decide) (by decide)
  obtain ⟨m1, m2, m3⟩ := fl_bad s f (zz s 1 5) hr (inR_zz _ _ _)
  exact ⟨⟨x1.fr f1 (by decide), hf, m2, m3.trans h5, m1, NT3.fr1 x8 f1⟩, FrX.of1 f1 (by decide)⟩
theorem x_tmid (hB : a_Can B) (hcap : XCap t n ns) (hta : ∀ i, ta.getD i 0 ≤ 2) (h2 : 2 < tn.length) (h2a : ta.getD 2 0 = 2) (hW : ∀ c, c < cn.length → wfC tn.length ta (ct.getD c cNo)) (hcn : CnO cn) (N d : Nat) (hd : 262 ≤ d) (res : (Int × Nat) ⊕ (aT × Nat)) (h : ptm t n N 0 0 [] noT 0 = some res) (x1 : Int) (s : aZ) (l : aZL) (hA : XAt t n ns 0 s) (h5 : zz s 1 5 = stT t n 0) (hTy : XTy tn ta s) (hCo : XCo cn ct s) (h0 : zz s 47 0 = 0 ∧ zz s 48 0 = 0 ∧ zz s 49 0 = 0 ∧ zz s 50 0 = 0) (h53 : zz s 53 0 = 0) : a_W (d - 1) 46 0 [.ref 17] [] (mkH B s l) (fun r => ∃ (s8 : Nat → Nat → Int32) (l9 : Nat → Nat → Int64), r = (.inl none, mkH B s8 l9) ∧ a_W (d - 1) 54 0 [.ref 36] [] (mkH B s8 l9) (fun r => ∃ (s10 : Nat → Nat → Int32) (l11 : Nat → Nat → Int64), r = (.inl none, mkH B s10 l11) ∧ a_W (d - 1) 55 0 [.ref 38] [] (mkH B s10 l11) (fun r => ∃ (s12 : Nat → Nat → Int32) (l13 : Nat → Nat → Int64), r = (.inl none, mkH B s12 l13) ∧ a_W (d - 1) 57 0 [.ref 38, iv 0, .retAddr 0, .retAddr 0, .retAddr 0, .retAddr 0] [] (mkH B s12 l13) (fun r => ∃ (v16 : Int) (s14 : Nat → Nat → Int32) (l15 : Nat → Nat → Int64), r = (.inl (some (iv v16)), mkH B s14 l15) ∧ a_W (d - 1) 106 0 [.ref 1] [] (mkH B s14 l15) (fun r => ∃ (s17 : Nat → Nat → Int32) (l18 : Nat → Nat → Int64), r = (.inl none, mkH B s17 l18) ∧ (((zz s17 1 10) ≠ 0 → a_W d 21 91 [.ref 0, iv x1, iv v16] [] (mkH B s17 l18) (TmX t n ns tn ta cn ct (whR t n res) B s l)) ∧ ((zz s17 1 10) = 0 → a_W (d - 1) 107 0 [.ref 38, iv v16] [] (mkH B s17 l18) (fun r => ∃ (v22 : Int) (s20 : Nat → Nat → Int32) (l21 : Nat → Nat → Int64), r = (.inl (some (iv v22)), mkH B s20 l21) ∧ a_W (d - 1) 113 0 [.ref 1, iv v22] [] (mkH B s20 l21) (fun r => ∃ (s23 : Nat → Nat → Int32) (l24 : Nat → Nat → Int64), r = (.inl none, mkH B s23 l24) ∧ a_W d 21 91 [.ref 0, iv x1, iv v16] [] (mkH B s23 l24) (TmX t n ns tn ta cn ct (whR t n res) B s l)))))))))) := by
  refine a_W.imp (x_clearU hB (by omega) l s) ?_
  rintro _ ⟨s8, rfl, c1, c9, c10, c11, ⟨c18, c19, c20⟩, c21, ck⟩
  refine ⟨s8, l, rfl, w54_0 hB s8 l ?_⟩
  have b4 : zz (zu (zu (zu s8 36 4 0) 36 5 0) 36 6 0) 36 4 = 0 := by rw [zz_ne _ _ _ _ _ _ (by omega), zz_ne _ _ _ _ _ _ (by omega), zz_same _ _ _ (by decide)]
  have b5 : zz (zu (zu (zu s8 36 4 0) 36 5 0) 36 6 0) 36 5 = 0 := by rw [zz_ne _ _ _ _ _ _ (by omega), zz_same _ _ _ (by decide)]
  have b6 : zz (zu (zu (zu s8 36 4 0) 36 5 0) 36 6 0) 36 6 = 0 := zz_same _ _ _ (by decide)
  have bk : ∀ k, k ≠ 36 → (zu (zu (zu s8 36 4 0) 36 5 0) 36 6 0) k = s8 k := fun k hk => by rw [zu_ne _ _ _ _ _ hk, zu_ne _ _ _ _ _ hk, zu_ne _ _ _ _ _ hk]
  generalize (zu (zu (zu s8 36 4 0) 36 5 0) 36 6 0) = s10 at *
  have k10 : ∀ k, (k < 17 ∨ 23 < k) → k ≠ 36 → s10 k = s k := fun k h1 h2 => (bk k h2).trans (ck k h1)
  have z17 : ∀ k j, 17 ≤ k → k ≤ 23 → zz s10 k j = zz s8 k j := fun k j a b => zz_of (bk k (by omega)) j
  refine ⟨s10, l, rfl, ?_⟩
  have zc : ∀ k j, (k < 17 ∨ 23 < k) → k ≠ 36 → zz s10 k j = zz s k j := fun k j a b => zz_of (k10 k a b) j
  have hS10 : PS 1 s10 := c1.z (z17 17 8 (by decide) (by decide)) (fun k k1 k2 j => z17 k j (by omega) (by omega))
  have h010 : zz s10 47 0 = 0 ∧ zz s10 48 0 = 0 ∧ zz s10 49 0 = 0 ∧ zz s10 50 0 = 0 := ⟨(zc 47 0 (by decide) (by decide)).trans h0.1, (zc 48 0 (by decide) (by decide)).trans h0.2.1, (zc 49 0 (by decide) (by decide)).trans h0.2.2.1, (zc 50 0 (by decide) (by decide)).trans h0.2.2.2⟩
  obtain ⟨hR, hwh⟩ := x_whole hB hcap hta h2 h2a hW hcn N (d - 1) (by omega) res h s10 l (hA.keep (fun k hk => k10 k (by omega) (by omega))) hS10 (hTy.fr (fun k a b => k10 k (by omega) (by omega))) (hCo.fr (fun k a b => k10 k (by omega) (by omega))) b4 h010
  obtain ⟨⟨f1, f2, f3, f4, f5⟩, fk⟩ := stR_f s10
  refine hwh _ ?_
  intro s12 w P2 c2 hX
  have hfr := hX.2.2.1
  -- frames
  have tf : ∀ s2 : aZ, (∀ k, (k = 0 ∨ k = 2 ∨ (8 ≤ k ∧ k ≤ 16) ∨ (25 ≤ k ∧ k ≤ 33) ∨ (46 ≤ k ∧ k ≤ 50) ∨ 56 ≤ k) → s2 k = s12 k) → (∀ j, j ∉ [4, 6, 7, 8, 9, 10, 11] → zz s2 1 j = zz s12 1 j) → TmF s s2 := fun s2 g1 g2 => by
    have g0 : ∀ k, 46 ≤ k → k ≤ 50 → zz s2 k 0 = zz s10 k 0 := fun k a b => by rw [zz_of (g1 k (by omega)), hfr.2.2.2.1 k 0 a b (by decide), zz_of (fk k (by omega) (by omega) (by omega))]
    exact ⟨fun k hk => ((g1 k (by omega)).trans (hfr.1 k (by omega))).trans ((fk k (by omega) (by omega) (by omega)).trans (k10 k (by omega) (by omega))), fun j hj => ((g2 j hj).trans (hfr.2.1 j hj)).trans ((zz_of (fk 1 (by decide) (by decide) (by decide)) j).trans (zc 1 j (by decide) (by decide))), (g0 47 (by decide) (by decide)).trans h010.1, (g0 48 (by decide) (by decide)).trans h010.2.1, (g0 49 (by decide) (by decide)).trans h010.2.2.1, (g0 50 (by decide) (by decide)).trans h010.2.2.2⟩
  have sh : ∀ k, 51 ≤ k → k ≤ 55 → s12 k = s k := fun k a b => (hfr.1 k (by omega)).trans ((fk k (by omega) (by omega) (by omega)).trans (k10 k (by omega) (by omega)))
  have h512 : zz s12 1 5 = stT t n 0 := (hfr.2.1 5 (by decide)).trans ((zz_of (fk 1 (by decide) (by decide) (by decide)) 5).trans ((zc 1 5 (by decide) (by decide)).trans h5))
  have hkey : ∀ T j, whR t n res = .inr (T, j) → res = .inr (T, j) ∧ kdT t n j = 0 := fun T j e => by
    cases res with
    | inl e2 => cases e
    | inr q =>
      by_cases c : kdT t n q.2 = 0
      · rw [show whR t n (.inr q) = .inr q from if_pos c] at e
        cases e
        exact ⟨rfl, c⟩
      · rw [show whR t n (.inr q) = .inl (2, q.2) from if_neg c] at e
        cases e
  generalize whR t n res = res2 at *
  cases hr : res2 with
  | inl e =>
    rw [hr] at hX
    obtain ⟨f, j, hh, gF⟩ : ∃ f j, (Sum.inl e : (Int × Nat) ⊕ (aT × Nat)) = .inl (f, j) ∧ XFt t n ns f j s12 := by
      rcases hX.2.2.2.2 with ⟨_, _, hh, -⟩ | hh
      · cases hh
      · exact hh
    have ne : zz s12 1 10 ≠ 0 := by rw [gF.2.2.1]; exact gF.2.1
    refine ⟨fun _ => w21t_91 hB (by omega) _ _ s12 l ⟨fun _ => ⟨s12, tf s12 (fun _ _ => rfl) (fun _ _ => rfl), Or.inl ⟨f, j, hh, rfl, gF, sh⟩⟩, fun c => absurd c ne⟩, fun c => absurd c ne⟩
  | inr q =>
    obtain ⟨T, j⟩ := q
    rw [hr] at hX
    obtain ⟨er, hk0⟩ := hkey T j hr
    subst er
    obtain ⟨-, -, -, g0, k5, -, -⟩ := ptm_R t n N 0 0 [] noT 0 _ (by decide) (by decide) (I0D _ _ _ _ _ (by omega)) h
    have g0 : ftT t n j = 0 := g0 (by decide)
    have k5 : tmD t n j 0 T := k5
    have hR2 := hX.R
    have hA12 : XAt t n ns j s12 := by
      rcases hX.2.2.2.2 with ⟨T', j', hh, g, -⟩ | ⟨f, j', hh, -⟩
      · cases hh
        exact g
      · cases hh
    have hC12 := hA12.1 g0
    have zs : ∀ k q, k ≠ 45 → k ≠ 39 → k ≠ 38 → zz (stR s10) k q = zz s10 k q := fun k q a b c => zz_of (fk k a b c) q
    have y17 : ∀ q, zz (stR s10) 17 q = zz s8 17 q := fun q => (zs 17 q (by decide) (by decide) (by decide)).trans (z17 17 q (by decide) (by decide))
    have v1 : (vwX (stR s10)).1 0 = 0 := by
      show (zz (stR s10) 21 0).toNat = 0
      rw [zs 21 0 (by decide) (by decide) (by decide), z17 21 0 (by decide) (by decide), c21]
      rfl
    have v2 : (vwX (stR s10)).2.1 0 = unX := ((zs 18 0 (by decide) (by decide) (by decide)).trans (z17 18 0 (by decide) (by decide))).trans c18
    have v3 : (vwX (stR s10)).2.2.1 0 = -1 := ((zs 19 0 (by decide) (by decide) (by decide)).trans (z17 19 0 (by decide) (by decide))).trans c19
    have v4 : (vwX (stR s10)).2.2.2 0 = -1 := ((zs 20 0 (by decide) (by decide) (by decide)).trans (z17 20 0 (by decide) (by decide))).trans c20
    have hE1 : ∃ rt u, PE (arT ta) 1 (stR s10) rt u := by
      refine ⟨id, fun _ => 0, hR.1, fun k hk => ?_, ⟨fun k hk => ?_, fun k hk => ?_⟩, fun k hk hc => ?_⟩
      · have e : k = 0 := by omega
        subst e
        rw [v1]
        refine ⟨by decide, by decide, v1, rfl, fun _ => ⟨rfl, rfl⟩, fun c => absurd rfl c, ?_⟩
        have := List.countP_le_length (p := fun k => decide ((vwX (stR s10)).1 k = k)) (l := List.range 1)
        rw [List.length_range] at this
        show 0 + nR 1 _ ≤ 1
        unfold nR
        omega
      · have e : k = 0 := by omega
        subst e
        rw [v2, v3, v4]
        decide
      · have e : k = 0 := by omega
        subst e
        rw [v2, v3, v4]
        exact ⟨fun c => absurd rfl c, fun _ => by decide⟩
      · have e : k = 0 := by omega
        subst e
        exact absurd v2 hc
    have hV1 : ∀ v, Vl unX 1 (vwX (stR s10)) v := fun v k hk => by
      have e : k = 0 := by omega
      subst e
      exact ⟨by rw [v1], fun c => absurd v2 c⟩
    refine ⟨fun c => absurd hC12.2.1 c, fun _ => a_W.imp (x_verd (d := d - 1) hB (by omega) l f2 ((y17 10).trans c10) ((y17 11).trans c11) f5 ((zs 36 5 (by decide) (by decide) (by decide)).trans b5) ((zs 36 6 (by decide) (by decide) (by decide)).trans b6) hE1 hV1 ⟨_, k5.1⟩ hX) ?_⟩
    rintro _ ⟨s16, v, rfl, hv, hVd, fr16, hfl⟩
    refine ⟨_, s16, l, rfl, ?_⟩
    have hC16 : XC t n ns j s16 := hC12.keep (fun k hk => fr16 k (by omega) (by omega) (by omega) (by omega))
    have h516 : zz s16 1 5 = stT t n 0 := (zz_of (fr16 1 (by decide) (by decide) (by decide) (by decide)) 5).trans h512
    refine w113_0 hB (by omega) _ s16 l ⟨⟨by omega, by omega⟩, fun v0 => ⟨s16, l, rfl, w21t_91 hB (by omega) _ _ s16 l ⟨fun c => absurd hC16.2.1 c, fun _ => ?_⟩⟩, fun vn => ⟨fun c => absurd hC16.2.1 c, fun _ => ?_⟩⟩
    · subst v0
      have hrw := rsv_w t n j cn T [] k5.1
      have hw5 : tmW (rsv t n cn T []) ≤ 500 := by
        rw [hrw.1]
        rcases hVd with ⟨-, c⟩ | ⟨c, -⟩
        · exact absurd c (by decide)
        · exact Decidable.byContradiction (fun q => c (Or.inl (by omega)))
      have h5c := hR2.2.2.2.2.1
      refine a_W.imp (x_fill hB (by omega) l (coK_rsv t n cn T []) hR2.2.1 h5c.2.2 hw5 (fun y hy => ?_) ?_ ?_ (hfl rfl)) ?_
      · rw [zz_of (fr16 49 (by decide) (by decide) (by decide) (by decide))]
        exact (hR2.2.2.2.2.2.2.2.2.1 y hy).2.2.1
      · rw [zz_of (fr16 53 (by decide) (by decide) (by decide) (by decide)), zz_of (sh 53 (by decide) (by decide))]
        exact h53
      · rw [zz_of (fr16 17 (by decide) (by decide) (by decide) (by decide)), hfr.2.2.1, y17]
        exact c9
      · rintro _ ⟨s2, R0, rfl, hpr, hsh, fr2⟩
        have el : zz s2 51 4 = (tmW T : Int) := by rw [hsh.1, syK_len _ (coK_rsv t n cn T []), hrw.1]
        refine ⟨s2, l, rfl, s2, tf s2 (fun k hk => (fr2 k (by omega)).trans (fr16 k (by omega) (by omega) (by omega) (by omega))) (fun q hq => (zz_of (fr2 1 (by decide)) q).trans (zz_of (fr16 1 (by decide) (by decide) (by decide) (by decide)) q)), Or.inr ⟨T, j, rfl, Or.inr ⟨hVd, R0, hpr, by rw [el], hC16.keep (fun k hk => fr2 k (by omega)), hsh⟩⟩⟩
    · obtain ⟨gF, fF⟩ := hC16.who v vn ⟨by omega, by omega⟩ h516
      generalize (zu (zu (zu s16 1 10 v) 1 11 (zz s16 1 5)) 1 6 0) = s19 at *
      have ne : zz s19 1 10 ≠ 0 := by rw [gF.2.2.1]; exact vn
      have k19 : ∀ k, 10 ≤ k → k ≠ 21 → k ≠ 22 → k ≠ 23 → k ≠ 24 → s19 k = s12 k := fun k a b c d e => (fF.hi k a).trans (fr16 k b c d e)
      refine ⟨s19, l, rfl, w21t_91 hB (by omega) _ _ s19 l ⟨fun _ => ⟨s19, tf s19 (fun k hk => ?_) (fun q hq => (fF.2 q hq).trans (zz_of (fr16 1 (by decide) (by decide) (by decide) (by decide)) q)), Or.inr ⟨T, j, rfl, Or.inl ⟨v, vn, hVd, rfl, gF, fun k a b => (k19 k (by omega) (by omega) (by omega) (by omega) (by omega)).trans (sh k a b)⟩⟩⟩, fun c => absurd c ne⟩⟩
      by_cases e10 : 10 ≤ k
      · exact k19 k e10 (by omega) (by omega) (by omega) (by omega)
      · exact (fF.1 k (by omega) (by omega) (by omega) (by omega) (by omega) (by omega)).trans (fr16 k (by omega) (by omega) (by omega) (by omega))
end
