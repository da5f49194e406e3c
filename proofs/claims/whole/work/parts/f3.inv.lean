/-! WHAT STANDS BETWEEN TWO CALLS -/
def IvB (vs tn : List (List Int)) (ta : List Int) (cn : List (List Int)) (ct : List aT) (fx : Nat) (s : aZ) (l : aZL) : Prop := (Dn vs ∧ ∀ nm ∈ vs, GdN nm) ∧ (NT 3 5 6 7 4 10240 3000 vs s ∧ MV vs s l) ∧ (XTy tn ta s ∧ MTy tn ta s l ∧ (∀ i, ta.getD i 0 ≤ 2) ∧ ta.getD 2 0 = 2) ∧ (XCo cn ct s ∧ MCo cn ct fx s l ∧ (∀ c, c < cn.length → wfC tn.length ta (ct.getD c cNo)) ∧ MFx ta fx s) ∧ (CnO cn ∧ CnP cn ∧ CtO ct) ∧ (zz s 47 0 = 0 ∧ zz s 48 0 = 0 ∧ zz s 49 0 = 0 ∧ zz s 50 0 = 0) ∧ zz s 53 0 = 0 ∧ (zz s 1 10 = zz s 56 22 ∧ zz s 1 11 = zz s 56 23) ∧ a_Sh s
def IvW (i : Nat) (_B : aH) (s : aZ) (l : aZL) : Prop := ∃ (f : Nat) (vs tn : List (List Int)) (ta : List Int) (cn : List (List Int)) (ct : List aT) (fx : Nat), a_By f s ∧ Uc vs + f ≤ 20 * i ∧ IvB vs tn ta cn ct fx s l
theorem IvB.keep {vs tn : List (List Int)} {ta : List Int} {cn : List (List Int)} {ct : List aT} {fx : Nat} {s s3 : aZ} {l l3 : aZL} (h : IvB vs tn ta cn ct fx s l) (k : ∀ k, k < 106 → k ≠ 1 → k ≠ 2 → k ≠ 56 → k ≠ 57 → s3 k = s k) (k1 : ∀ j, j ≠ 2 → zz s3 1 j = zz s 1 j) (k56 : ∀ j, j ≠ 2 → j ≠ 0 → zz s3 56 j = zz s 56 j) (kl : ∀ k, k < 105 → l3 k = l k) : IvB vs tn ta cn ct fx s3 l3 := by
  obtain ⟨h1, ⟨h2, h3⟩, ⟨h4, h5, h6, h7⟩, ⟨h8, h9, h10, h11⟩, h12, h13, h14, h15, h16⟩ := h
  have kk : ∀ c, 3 ≤ c → c < 106 → c ≠ 56 → c ≠ 57 → s3 c = s c := fun c a b e g => k c b (by omega) (by omega) e g
  have z : ∀ c j, 3 ≤ c → c < 106 → c ≠ 56 → c ≠ 57 → zz s3 c j = zz s c j := fun c j a b e g => zz_of (kk c a b e g) j
  refine ⟨h1, ⟨h2.fr (z 3 4 (by decide) (by decide) (by decide) (by decide)) (kk 5 (by decide) (by decide) (by decide) (by decide)) (kk 6 (by decide) (by decide) (by decide) (by decide)) (kk 7 (by decide) (by decide) (by decide) (by decide)) (kk 4 (by decide) (by decide) (by decide) (by decide)), h3.fr (k56 5 (by decide) (by decide)) (kl 63 (by decide))⟩, ⟨h4.fr (fun c a b => kk c (by omega) (by omega) (by omega) (by omega)), h5.fr (k56 4 (by decide) (by decide)) (kk 62 (by decide) (by decide) (by decide) (by decide)) (kl 61 (by decide)), h6, h7⟩, ⟨h8.fr (fun c a b => kk c (by omega) (by omega) (by omega) (by omega)), h9.fr (k56 3 (by decide) (by decide)) (k56 17 (by decide) (by decide)) (kk 59 (by decide) (by decide) (by decide) (by decide)) (kk 60 (by decide) (by decide) (by decide) (by decide)) (fun c a b j _ => z c j (by omega) (by omega) (by omega) (by omega)) (kl 58 (by decide)), h10, fun j hj => (h11 j hj).k (fun c a b => z c j (by omega) (by omega) (by omega) (by omega))⟩, h12, ?_, ?_, ?_, ?_⟩
  · rw [z 47 0 (by decide) (by decide) (by decide) (by decide), z 48 0 (by decide) (by decide) (by decide) (by decide), z 49 0 (by decide) (by decide) (by decide) (by decide), z 50 0 (by decide) (by decide) (by decide) (by decide)]
    exact h13
  · rw [z 53 0 (by decide) (by decide) (by decide) (by decide)]; exact h14
  · rw [k1 10 (by decide), k1 11 (by decide), k56 22 (by decide) (by decide), k56 23 (by decide) (by decide)]; exact h15
  · exact h16.keep (z 51 4 (by decide) (by decide) (by decide) (by decide)) (kk 52 (by decide) (by decide) (by decide) (by decide)) (kk 53 (by decide) (by decide) (by decide) (by decide)) (kk 54 (by decide) (by decide) (by decide) (by decide)) (k56 18 (by decide) (by decide)) (kk 68 (by decide) (by decide) (by decide) (by decide)) (kk 69 (by decide) (by decide) (by decide) (by decide)) (kk 70 (by decide) (by decide) (by decide) (by decide))
theorem IvW.keep {i : Nat} {B B3 : aH} {s s3 : aZ} {l l3 : aZL} (h : IvW i B s l) (k : ∀ k, k < 106 → k ≠ 56 → s3 k = s k) (k56 : ∀ j, j ≠ 0 → zz s3 56 j = zz s 56 j) (kl : ∀ k, k < 105 → l3 k = l k) : IvW (i + 1) B3 s3 l3 := by
  obtain ⟨f, vs, tn, ta, cn, ct, fx, h1, h2, h3⟩ := h
  obtain ⟨b1, b2, b3, b4, b5⟩ := h1
  refine ⟨f, vs, tn, ta, cn, ct, fx, ⟨(zz_of (k 1 (by decide) (by decide)) 2).trans b1, (k56 2 (by decide)).trans b2, b3, b4, fun j hj => ?_⟩, by omega, h3.keep (fun c a _ _ e _ => k c a e) (fun j _ => zz_of (k 1 (by decide) (by decide)) j) (fun j _ a => k56 j a) kl⟩
  rw [zz_of (k 2 (by decide) (by decide)), zz_of (k 57 (by decide) (by decide))]
  exact b5 j hj
theorem IvW.kp {i : Nat} {B B3 : aH} {s s3 : aZ} {l l3 : aZL} (h : IvW i B s l) (f : a_Kp s l s3 l3) : IvW (i + 1) B3 s3 l3 := h.keep f.1 f.2.1 (fun k hk => f.2.2 k (by omega))
theorem By0 {s : aZ} (h1 : zz s 1 2 = 0) (h2 : zz s 56 2 = 0) : a_By 0 s := ⟨h1, h2, by decide, rfl, fun j hj => absurd hj (Nat.not_lt_zero _)⟩
/-- the bytes of a text -/
theorem By_t {f n : Nat} {s : aZ} (h : a_By f s) (hn : n ≤ f) : n ≤ 8000 ∧ (n : Int) ≤ zz s 1 2 ∧ (n : Int) ≤ zz s 56 2 ∧ ∀ j, j < n → zz s 2 j = sb ((fun j => zz s 57 j) j) ∧ zz s 57 j = (fun j => zz s 57 j) j ∧ 0 ≤ (fun j => zz s 57 j) j ∧ (fun j => zz s 57 j) j < 256 := by
  obtain ⟨b1, b2, b3, b4, b5⟩ := h
  exact ⟨by omega, by omega, by omega, fun j hj => ⟨(b5 j (by omega)).1, rfl, (b5 j (by omega)).2.1, (b5 j (by omega)).2.2⟩⟩
theorem fx_pos {cn : List (List Int)} {ct : List aT} {fx : Nat} {s : aZ} {l : aZL} (h : MCo cn ct fx s l) (hcn : CnO cn) (hct : CtO ct) : 0 < fx := by
  have := h.2.2.2.2.2.2.2.2.2.2 0 (by have := hcn.1; omega)
  rw [hct.1] at this
  have := this.1
  omega
/-- one constant more -/
theorem fd_more {cn : List (List Int)} {nm x : List Int} (hne : nm ≠ x) : fd (cn ++ [nm]) x (cn ++ [nm]).length = fd cn x cn.length := by
  rw [List.length_append]
  show (if (cn ++ [nm]).getD cn.length [] = x then (cn.length : Int) else fd (cn ++ [nm]) x cn.length) = _
  rw [getD_last, if_neg hne, fd_app _ _ _ _ (Nat.le_refl _)]
theorem fd_keep {cn : List (List Int)} {nm x : List Int} {c : Nat} (hd : ∀ i j, i < j → j < (cn ++ [nm]).length → (cn ++ [nm]).getD i [] ≠ (cn ++ [nm]).getD j []) (h : fd cn x cn.length = (c : Nat)) : fd (cn ++ [nm]) x (cn ++ [nm]).length = (c : Nat) := by
  rw [fd_more, h]
  intro e
  rcases fd_cases cn x cn.length with ⟨g, -⟩ | ⟨i, g1, g2, g3⟩
  · omega
  · refine hd i cn.length g1 (by rw [List.length_append]; show cn.length < cn.length + 1; omega) ?_
    rw [getD_app _ _ _ _ g1, getD_last, g3, e]
theorem Cn_more {cn : List (List Int)} {nm : List Int} (h1 : CnO cn) (h2 : CnP cn) (hne : nm ≠ [92]) (hd : ∀ i j, i < j → j < (cn ++ [nm]).length → (cn ++ [nm]).getD i [] ≠ (cn ++ [nm]).getD j []) : CnO (cn ++ [nm]) ∧ CnP (cn ++ [nm]) := by
  obtain ⟨a1, a2, a3, a4, a5, a6⟩ := h1
  obtain ⟨b1, b2, b3, b4⟩ := h2
  exact ⟨⟨by rw [List.length_append]; omega, (fd_more hne).trans a2, fd_keep (c := 7) hd a3, fd_keep (c := 8) hd a4, fd_keep (c := 9) hd a5, fd_keep (c := 3) hd a6⟩, ⟨fd_keep (c := 6) hd b1, fd_keep (c := 5) hd b2, fd_keep (c := 4) hd b3, fd_keep (c := 0) hd b4⟩⟩
theorem Ct_more {ct : List aT} {C : aT} (h : CtO ct) (hl : 12 ≤ ct.length) : CtO (ct ++ [C]) := by
  obtain ⟨a1, a2, a3, a4⟩ := h
  exact ⟨by rw [getD_app _ _ _ _ (by omega)]; exact a1, by rw [getD_app _ _ _ _ (by omega)]; exact a2, by rw [getD_app _ _ _ _ (by omega)]; exact a3, by rw [getD_app _ _ _ _ (by omega)]; exact a4⟩
theorem ar_more {ta : List Int} {c z : Int} (hz : z < ta.length) : arT (ta ++ [c]) z = arT ta z := by
  unfold arT
  by_cases h : z < 0
  · rw [if_pos h, if_pos h]
  · rw [if_neg h, if_neg h, getD_app _ _ _ _ (by omega)]
theorem okD.more {ta : List Int} {c : Int} {s : aZ} {j : Nat} (h : okD ta s j) : okD (ta ++ [c]) s j := by
  obtain ⟨a1, a2, a3, a4, a5⟩ := h
  refine ⟨a1, a2, ⟨a3.1, by rw [List.length_append]; show _ < ((ta.length + 1 : Nat) : Int); omega, a3.2.2⟩, ?_, ?_⟩
  · rw [ar_more a3.2.1]; exact a4
  · rw [ar_more a3.2.1]; exact a5
section
variable {L : Nat} {xs : Nat → Int32}
theorem iv_feed {d i : Nat} (hd : 2 ≤ d) {B : aH} {s : aZ} {l : aZL} {a b c e g : Int} (hI : IvW i B s l) (hB : a_BI L i xs B s) : a_JF d L i xs IvW [.ref 0, iv a, iv b, iv c, iv e, iv g] [.ref 56, iv a, iv b, iv c, iv e, iv g, .retAddr 0, .retAddr 0] B s l := by
  obtain ⟨f, vs, tn, ta, cn, ct, fx, h1, h2, h3⟩ := hI
  exact jF_ok hd hB f h1 (fun s3 f3 g1 g2 g3 => ⟨f3, vs, tn, ta, cn, ct, fx, g1, by omega, h3.keep g3.1 g3.2.1 g3.2.2 (fun _ _ => rfl)⟩)
/-- a text that is there -/
theorem iv_txt {i : Nat} {s : aZ} {f : Nat} {vs : List (List Int)} (hi : 6 * i + 6 ≤ L) (hL : L ≤ 3072) (h1 : a_By f s) (h2 : Uc vs + f ≤ 20 * i) (hd : Dn vs ∧ ∀ nm ∈ vs, GdN nm) {n : Nat} (hn : n ≤ f) : XCap (fun j => zz s 57 j) n vs ∧ MCap (fun j => zz s 57 j) n vs ∧ ∀ j, Uc (nsT (fun j => zz s 57 j) n vs j) + 0 ≤ 20 * (i + 1) ∧ Dn (nsT (fun j => zz s 57 j) n vs j) ∧ ∀ nm ∈ nsT (fun j => zz s 57 j) n vs j, GdN nm := by
  obtain ⟨c1, c2⟩ := cap_ok (t := fun j => zz s 57 j) (n := n) hd.1 hd.2 (by omega)
  refine ⟨c1, c2, fun j => ⟨?_, nsT_ok hd.1 hd.2 j⟩⟩
  have := (cap_U (fun j => zz s 57 j) n vs j).2
  omega
theorem iv_term {d i : Nat} (hd : 420 ≤ d) (hL : L ≤ 3072) (hi : 6 * i + 6 ≤ L) {B : aH} {s : aZ} {l : aZL} {a : Int} (ha : inR a) (hI : IvW i B s l) (hB : a_BI L i xs B s) : a_J d L i xs IvW 20 143 [.ref 0, iv a, .ref 105, .retAddr 0] [.ref 56, iv a, .retAddr 0, .retAddr 0] B s l := by
  have hI' := hI
  obtain ⟨f, vs, tn, ta, cn, ct, fx, h1, h2, h3⟩ := hI
  have e1 := h1.1
  have e2 := h1.2.1
  by_cases hn : a < 0 ∨ zz s 1 2 < a
  · exact j20_thr (by omega) (by omega) ha hB (by omega) hn (fun B3 s3 l3 hK => hI'.kp hK)
  · obtain ⟨n, rfl⟩ : ∃ n : Nat, a = n := ⟨a.toNat, by omega⟩
    obtain ⟨n8, n1, n2, nb⟩ := By_t h1 (show n ≤ f by omega)
    obtain ⟨hdn, ⟨h4, h5⟩, ⟨h6, h7, h8, h9⟩, ⟨h10, h11, h12, h13⟩, ⟨h14, h15, h16⟩, h17, h18, h19, h20⟩ := h3
    obtain ⟨c1, c2, c3⟩ := iv_txt hi hL h1 h2 hdn (show n ≤ f by omega)
    refine j20_ok hd hB n8 n1 n2 nb c1 c2 h4 h5 h6 h7 h8 h9 h10 h11 h12 h13 (fx_pos h11 h14 h16) h14 h15 h16 h17 h18 h20 (fun B3 s3 l3 j hT => ?_)
    obtain ⟨t1, t2, t3, t4, t5, t6, t7, t8, t9, t10, t11, t12⟩ := hT
    exact ⟨0, _, tn, ta, cn, ct, fx, By0 t8.1 t8.2, (c3 j).1, (c3 j).2, ⟨t6, t7⟩, ⟨t1, t2, h8, h9⟩, ⟨t3, t4, h12, t5⟩, ⟨h14, h15, h16⟩, t9, t10, t11, t12⟩
theorem iv_const {d i : Nat} (hd : 420 ≤ d) (hL : L ≤ 3072) (hi : 6 * i + 6 ≤ L) {B : aH} {s : aZ} {l : aZL} {a : Int} (ha : inR a) (hI : IvW i B s l) (hB : a_BI L i xs B s) : a_J d L i xs IvW 119 202 [.ref 0, iv a, .ref 105, .retAddr 0] [.ref 56, iv a, .retAddr 0, .retAddr 0, .retAddr 0, .retAddr 0] B s l := by
  have hI' := hI
  obtain ⟨f, vs, tn, ta, cn, ct, fx, h1, h2, h3⟩ := hI
  have e1 := h1.1
  have e2 := h1.2.1
  by_cases hn : a < 0 ∨ zz s 1 2 < a
  · exact j119_thr (by omega) (by omega) ha hB (by omega) hn (fun B3 s3 l3 hK => hI'.kp hK)
  · obtain ⟨n, rfl⟩ : ∃ n : Nat, a = n := ⟨a.toNat, by omega⟩
    obtain ⟨n8, n1, n2, nb⟩ := By_t h1 (show n ≤ f by omega)
    obtain ⟨hdn, ⟨h4, h5⟩, ⟨h6, h7, h8, h9⟩, ⟨h10, h11, h12, h13⟩, ⟨h14, h15, h16⟩, h17, h18, h19, h20⟩ := h3
    obtain ⟨c1, c2, c3⟩ := iv_txt hi hL h1 h2 hdn (show n ≤ f by omega)
    refine j119_ok (by omega) hB n8 n1 n2 nb c1 c2 h4 h5 h6 h7 h8 h9 h10 h11 h12 h13 (fun B3 s3 l3 cn3 ct3 fx3 hx t5 hD t1 t2 t3 t4 tw t6 t7 => ?_)
    obtain ⟨d1, d2, d3, d4, d5, d6, d7, d8, d9⟩ := hD
    have z : ∀ k j, 34 ≤ k → k < 56 → k ≠ 36 → k ≠ 37 → zz s3 k j = zz s k j := fun k j a b c e => zz_of (d1 k a b c e) j
    have hcc : CnO cn3 ∧ CnP cn3 ∧ CtO ct3 := by
      rcases hx with ⟨rfl, rfl⟩ | ⟨nm, C, hne, rfl, rfl⟩
      · exact ⟨h14, h15, h16⟩
      · obtain ⟨x1, x2⟩ := Cn_more h14 h15 hne t4.2.2.2.2.2.1
        exact ⟨x1, x2, Ct_more h16 (by have := h14.1; have := h10.2.1; omega)⟩
    refine ⟨0, _, tn, ta, cn3, ct3, fx3, By0 d3 d4, (c3 _).1, (c3 _).2, ⟨t6, t7⟩, ⟨t1, t2, h8, h9⟩, ⟨t3, t4, tw, t5⟩, hcc, ?_, ?_, ⟨d8, d9⟩, ?_⟩
    · rw [z 47 0 (by decide) (by decide) (by decide) (by decide), z 48 0 (by decide) (by decide) (by decide) (by decide), z 49 0 (by decide) (by decide) (by decide) (by decide), z 50 0 (by decide) (by decide) (by decide) (by decide)]
      exact h17
    · rw [z 53 0 (by decide) (by decide) (by decide) (by decide)]; exact h18
    · exact h20.keep (z 51 4 (by decide) (by decide) (by decide) (by decide)) (d1 52 (by decide) (by decide) (by decide) (by decide)) (d1 53 (by decide) (by decide) (by decide) (by decide)) (d1 54 (by decide) (by decide) (by decide) (by decide)) (d6 18 (by decide)) (d5 68 (by decide) (by decide) (by decide) (by decide) (by decide) (by decide) (by decide) (by decide) (by decide)) (d5 69 (by decide) (by decide) (by decide) (by decide) (by decide) (by decide) (by decide) (by decide) (by decide)) (d5 70 (by decide) (by decide) (by decide) (by decide) (by decide) (by decide) (by decide) (by decide) (by decide))
theorem iv_type {d i : Nat} (hd : 420 ≤ d) (hL : L ≤ 3072) (hi : 6 * i + 6 ≤ L) {B : aH} {s : aZ} {l : aZL} {a : Int} (ha : inR a) (hI : IvW i B s l) (hB : a_BI L i xs B s) : a_J d L i xs IvW 125 203 [.ref 0, iv a, .ref 105, .retAddr 0] [.ref 56, iv a, .retAddr 0] B s l := by
  have hI' := hI
  obtain ⟨f, vs, tn, ta, cn, ct, fx, h1, h2, h3⟩ := hI
  have e1 := h1.1
  have e2 := h1.2.1
  by_cases hn : a < 0 ∨ zz s 1 2 < a
  · exact j125_thr (by omega) (by omega) ha hB (by omega) hn (fun B3 s3 l3 hK => hI'.kp hK)
  · obtain ⟨n, rfl⟩ : ∃ n : Nat, a = n := ⟨a.toNat, by omega⟩
    obtain ⟨n8, n1, n2, nb⟩ := By_t h1 (show n ≤ f by omega)
    obtain ⟨hdn, ⟨h4, h5⟩, ⟨h6, h7, h8, h9⟩, ⟨h10, h11, h12, h13⟩, ⟨h14, h15, h16⟩, h17, h18, h19, h20⟩ := h3
    obtain ⟨c1, c2, c3⟩ := iv_txt hi hL h1 h2 hdn (show n ≤ f by omega)
    have hfx := h11.2.2.2.2.1
    have hcl := h11.2.1
    refine j125_ok (by omega) hB n8 n1 n2 nb c1 c2 h4 h5 h6 h7 fx h11.2.2.2.1 (by omega) (fun B3 s3 l3 tn3 ta3 hx hD t1 t2 t6 t7 => ?_)
    obtain ⟨d1, d2, d3, d4, d5, d6, d7, d8, d9⟩ := hD
    have z : ∀ k j, 17 ≤ k → k < 56 → zz s3 k j = zz s k j := fun k j a b => zz_of (d1 k a b) j
    have nd : ∀ c, 64 ≤ c → c ≤ 66 → ∀ j, zz s3 c j = zz s c j := fun c a b j => zz_of (d5 c (by omega) (by omega) (by omega) (by omega) (by omega) (by omega) (by omega)) j
    have tl : ta.length = tn.length := h7.2.2.2.2.2.2.2
    have t3l := h7.2.2.1
    have hF3 : MFx ta fx s3 := fun j hj => (h13 j hj).k (fun c a b => nd c a b j)
    have hta : (∀ i, ta3.getD i 0 ≤ 2) ∧ ta3.getD 2 0 = 2 ∧ (∀ c, c < cn.length → wfC tn3.length ta3 (ct.getD c cNo)) ∧ MFx ta3 fx s3 := by
      rcases hx with ⟨rfl, rfl⟩ | ⟨nm, c, rfl, rfl, hc2⟩
      · exact ⟨h8, h9, h12, hF3⟩
      · refine ⟨fun i => ?_, by rw [getD_app _ _ _ _ (by omega)]; exact h9, fun c hc => wfC.mono (by rw [List.length_append]; omega) (fun j hj => getD_app _ _ _ _ (by omega)) _ (h12 c hc), fun j hj => (hF3 j hj).more⟩
        by_cases e : i < ta.length
        · rw [getD_app _ _ _ _ e]; exact h8 i
        · by_cases e2 : i = ta.length
          · rw [e2, getD_last]; omega
          · rw [List.getD_eq_getElem?_getD, List.getElem?_eq_none (by rw [List.length_append]; show ta.length + 1 ≤ i; omega)]
            decide
    refine ⟨0, _, tn3, ta3, cn, ct, fx, By0 d3 d4, (c3 _).1, (c3 _).2, ⟨t6, t7⟩, ⟨t1, t2, hta.1, hta.2.1⟩, ⟨h10.fr (fun k a b => d1 k (by omega) (by omega)), h11.fr (d6 3 (by decide)) (d6 17 (by decide)) (d5 59 (by decide) (by decide) (by decide) (by decide) (by decide) (by decide) (by decide)) (d5 60 (by decide) (by decide) (by decide) (by decide) (by decide) (by decide) (by decide)) (fun c a b j _ => nd c a b j) (d7 58 (by decide) (by decide) (by decide) (by decide)), hta.2.2.1, hta.2.2.2⟩, ⟨h14, h15, h16⟩, ?_, ?_, ⟨d8, d9⟩, ?_⟩
    · rw [z 47 0 (by decide) (by decide), z 48 0 (by decide) (by decide), z 49 0 (by decide) (by decide), z 50 0 (by decide) (by decide)]
      exact h17
    · rw [z 53 0 (by decide) (by decide)]; exact h18
    · exact h20.keep (z 51 4 (by decide) (by decide)) (d1 52 (by decide) (by decide)) (d1 53 (by decide) (by decide)) (d1 54 (by decide) (by decide)) (d6 18 (by decide)) (d5 68 (by decide) (by decide) (by decide) (by decide) (by decide) (by decide) (by decide)) (d5 69 (by decide) (by decide) (by decide) (by decide) (by decide) (by decide) (by decide)) (d5 70 (by decide) (by decide) (by decide) (by decide) (by decide) (by decide) (by decide))
theorem iv_place {i : Nat} {B : aH} {s : aZ} {l : aZL} (hI : IvW i B s l) : zz s 1 10 = zz s 56 22 ∧ zz s 1 11 = zz s 56 23 ∧ IvW (i + 1) B (zu s 56 0 0) l := by
  have hI' := hI
  obtain ⟨f, vs, tn, ta, cn, ct, fx, h1, h2, h3⟩ := hI
  obtain ⟨-, -, -, -, -, -, -, ⟨p1, p2⟩, -⟩ := h3
  exact ⟨p1, p2, hI'.keep (fun k _ h => zu_ne _ _ _ _ _ h) (fun j h => zz_ne _ _ _ _ _ _ (fun q => h q.2)) (fun _ _ => rfl)⟩
theorem iv_sym {d i : Nat} (hd : 2 ≤ d) (hi : i ≤ 600) {B : aH} {s : aZ} {l : aZL} {a : Int} (ha : inR a) (hI : IvW i B s l) (hB : a_BI L i xs B s) : a_J d L i xs IvW 130 206 [.ref 0, iv a, .ref 105, .retAddr 0] [.ref 56, iv a] B s l := by
  have hI' := hI
  obtain ⟨f, vs, tn, ta, cn, ct, fx, h1, h2, h3⟩ := hI
  obtain ⟨-, -, -, -, -, -, -, -, hSh⟩ := h3
  exact j130 hd hi ha hB hSh (fun B3 s3 l3 k1 k2 k3 => hI'.keep k1 k2 k3)
theorem iv_tsym {d i : Nat} (hd : 2 ≤ d) (hi : i ≤ 600) {B : aH} {s : aZ} {l : aZL} {a b : Int} (ha : inR a) (hb : inR b) (hI : IvW i B s l) (hB : a_BI L i xs B s) : a_J d L i xs IvW 133 207 [.ref 0, iv a, iv b, .ref 105, .retAddr 0] [.ref 56, iv a, iv b] B s l := by
  have hI' := hI
  obtain ⟨f, vs, tn, ta, cn, ct, fx, h1, h2, h3⟩ := hI
  obtain ⟨-, -, -, -, -, -, -, -, hSh⟩ := h3
  exact j133 hd hi ha hb hB hSh (fun B3 s3 l3 k1 k2 k3 => hI'.keep k1 k2 k3)
end
