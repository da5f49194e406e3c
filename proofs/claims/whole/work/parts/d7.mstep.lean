/-! THE REFERENCE MAKES A TERM: the steps -/
theorem ndM_16 (s : aZ) (P : Nat) (c x y : Int) (hP : P < 60000) : zz (ndM s P c x y) 56 16 = ((P + 1 : Nat) : Int) := by
  unfold ndM
  rw [zz_same _ _ _ ⟨by omega, by omega⟩]
  rfl
section
variable {t : Nat → Int} {n : Nat} {ns tn : List (List Int)} {ta : List Int} {cn : List (List Int)} {ct : List aT} {fx jj : Nat} {B : aH}
/-- behind a fault nothing is made -/
theorem m_makeF (hB : a_Can B) {d : Nat} (hd : 1 ≤ d) (p : Int) (s : aZ) (l : aZL) (h : 0 < zz s 56 22) : a_W d 187 0 [.ref 56, iv p, .retAddr 0, .retAddr 0, .retAddr 0, .retAddr 0, .retAddr 0] [] (mkH B s l) (fun q => q = (.inl (some (iv 0)), mkH B s l)) := w187_0 hB (by omega) p s l ⟨fun c => absurd c (by omega), fun _ => rfl⟩
theorem m_joinF (hB : a_Can B) {d : Nat} (hd : 1 ≤ d) (a b : Int) (s : aZ) (l : aZL) (h : zz s 56 22 ≠ 0) : a_W d 193 0 [.ref 56, iv a, iv b, .retAddr 0, .retAddr 0, .retAddr 0, .retAddr 0] [] (mkH B s l) (fun q => q = (.inl none, mkH B (zu (zu s 92 0 a) 93 0 b) l)) := by
  refine w193_0 hB _ _ s l (w193_16 hB (by omega) _ _ _ _ _ _ _ l ⟨by decide, fun c => absurd c (by decide), fun _ => ⟨fun _ => w193_269 hB _ _ _ _ _ _ _ l rfl, fun c => absurd ?_ h⟩⟩)
  rw [zz_ne _ _ _ _ _ _ (by omega), zz_ne _ _ _ _ _ _ (by omega)] at c
  exact c
theorem MkO.ret {ρ : List Nat} {K : aT} {C P m k : Nat} {s : aZ} {l : aZL} {q : aR} (h : MkO t n ns tn ta ct B ρ K C P m k s l q) : ∃ (v : Int) (s2 : aZ) (l2 : aZL), q = (.inl (some (iv v)), mkH B s2 l2) ∧ MkO t n ns tn ta ct B ρ K C P m k s l (.inl (some (iv v)), mkH B s2 l2) := by
  obtain ⟨s2, r, P2, m2, rfl, h⟩ := h
  exact ⟨r, s2, l, rfl, s2, r, P2, m2, rfl, h⟩
theorem okD.bk {P P2 : Nat} {s : aZ} (h : ∀ j, P ≤ j → j < P2 → zz s 67 j = -1 ∧ okD ta s j) : BkM (arT ta) P P2 s := fun k h1 h2 => by
  obtain ⟨a0, a1, a2, a3, a4, a5⟩ := h k h1 h2
  exact ⟨a0, a1, a2, a3.1, fun _ => ⟨a4, a5⟩, fun c => absurd c a3.2.2⟩
/-- one new node: the frame -/
theorem FrMk.nd (s : aZ) (P m k : Nat) (c x y : Int) : FrMk P m k s (ndM s P c x y) := (FrCp.nd P 0 s c x y).mk m k
/-- the end of an application -/
theorem m_apT (hB : a_Can B) {d : Nat} (hd : 3 ≤ d) (h2 : arT ta 2 = 2) {ρ : List Nat} {Kf Kx : aT} {C P m k P2 m2 : Nat} {s s40 : aZ} {l : aZL} {v39 v42 : Int} (hρ : ∀ r ∈ ρ, r < P) (h62s : zz s 56 62 = (m : Nat)) (hF : FrMk P m k s s40) (h16 : zz s40 56 16 = (P2 : Nat)) (hP0 : 0 < P) (hP : P ≤ P2) (hP2 : P2 + 2 ≤ 29000) (hC : P2 + 2 ≤ P + C) (h62 : zz s40 56 62 = (m2 : Nat)) (hm1 : m + 1 ≤ m2) (hm2 : m2 ≤ m + tmW (apT Kf Kx)) (hm : m + tmW (apT Kf Kx) ≤ 520)
    (hc : (zz s40 56 22 = 3 ∧ zz s40 56 23 = zz s 72 0 ∧ (bdA t n tn ta (apT Kf Kx) = true ∨ ∀ v R, Vl unM P (vwM s) v → ¬ tyd t n ns tn ct (apT Kf Kx) (ρ.map v) R)) ∨ (zz s40 56 22 = 0 ∧ zz s40 56 23 = zz s 56 23 ∧ bdA t n tn ta (apT Kf Kx) = false ∧ m2 = m + tmW (apT Kf Kx) ∧ zz s40 98 m = -1 ∧ ∃ (Lf Lx : List Nat) (P1 : Nat) (s1 : aZ), (v39 = (Lf.headD 0 : Nat) ∧ v42 = (Lx.headD 0 : Nat)) ∧ RwM s40 (m + 1) (syK Kf) Lf ∧ RwM s40 (m + 1 + Lf.length) (syK Kx) Lx ∧ (Lf.length = tmW Kf ∧ Lx.length = tmW Kx) ∧ (P ≤ P1 ∧ P1 ≤ P2) ∧ (∀ k ∈ Lf, k < P1) ∧ (∀ k ∈ Lx, k < P2) ∧ MVl t n ns tn ta ct ρ Kf Lf P s P1 s1 ∧ MVl t n ns tn ta ct ρ Kx Lx P1 s1 P2 s40)) : a_W (d - 1) 191 0 [.ref 56] [] (mkH B s40 l) (fun r => ∃ (v45 : Int) (s43 : Nat → Nat → Int32) (l44 : Nat → Nat → Int64), r = (.inl (some (iv v45)), mkH B s43 l44) ∧ ((0 ≤ (zz s 56 62) ∧ (zz s 56 62) < 520) ∧ a_W (d - 1) 138 0 [.ref 56, iv v42, iv v45] [] (mkH B (zu s43 99 (zz s 56 62).toNat v45) l44) (fun r => ∃ (v49 : Int) (s47 : Nat → Nat → Int32) (l48 : Nat → Nat → Int64), r = (.inl (some (iv v49)), mkH B s47 l48) ∧ a_W (d - 1) 193 0 [.ref 56, iv v39, iv v49, .retAddr 0, .retAddr 0, .retAddr 0, .retAddr 0] [] (mkH B s47 l48) (fun r => ∃ (s50 : Nat → Nat → Int32) (l51 : Nat → Nat → Int64), r = (.inl none, mkH B s50 l51) ∧ MkO t n ns tn ta ct B ρ (apT Kf Kx) C P m k s l (.inl (some (iv (zz s50 99 (zz s 56 62).toNat))), (mkH B s50 l51)))))) := by
  refine w191_0 hB (by omega) s40 l ?_
  rw [h16, natc, h62s, natc]
  refine ⟨⟨by omega, by omega⟩, _, _, l, rfl, ⟨by have := (tm_pos (apT Kf Kx)).1; omega, by have := (tm_pos (apT Kf Kx)).1; omega⟩, ?_⟩
  rw [show zu (zu (zu (zu (zu s40 64 P2 (-1)) 65 P2 (-1)) 66 P2 (-1)) 67 P2 (-1)) 56 16 ((P2 : Int) + 1) = ndM s40 P2 (-1) (-1) (-1) from rfl, show (P2 : Int) + 1 - 1 = (P2 : Int) by omega]
  obtain ⟨b1, b2, b3, b4, b5⟩ := ndM_at s40 P2 (-1) (-1) (-1) (by omega) (by decide) (by decide) (by decide)
  have nn := fun c j h => ndM_ne s40 P2 (-1) (-1) (-1) c j h
  have f1 := FrMk.nd s40 P2 m k (-1) (-1) (-1)
  generalize ndM s40 P2 (-1) (-1) (-1) = s43 at *
  have z1 : ∀ c j, (c ≠ 99 ∨ j ≠ m) → zz (zu s43 99 m (P2 : Int)) c j = zz s43 c j := fun c j h => zz_ne _ _ _ _ _ _ (by omega)
  have z99 : zz (zu s43 99 m (P2 : Int)) 99 m = (P2 : Int) := zz_same _ _ _ ⟨by omega, by omega⟩
  have zk : ∀ c, c ≠ 99 → (zu s43 99 m (P2 : Int)) c = s43 c := fun c h => zu_ne _ _ _ _ _ h
  have f2 : FrMk (P2 + 1) m k s43 (zu s43 99 m (P2 : Int)) := ⟨fun c h1 _ h3 => zk c (by omega), fun j _ _ _ _ _ => z1 56 j (Or.inl (by decide)), fun c h1 h2 j _ => z1 c j (Or.inl (by omega)), fun j _ => ⟨z1 96 j (Or.inl (by decide)), z1 97 j (Or.inl (by decide))⟩, fun j hj => ⟨z1 98 j (Or.inl (by decide)), z1 99 j (Or.inr (by omega))⟩⟩
  generalize zu s43 99 m (P2 : Int) = s44 at *
  refine w138_0 hB (by omega) _ _ s44 l ?_
  rw [z1 56 16 (Or.inl (by decide)), b5, natc]
  refine ⟨⟨by omega, by omega⟩, _, _, l, rfl, ?_⟩
  rw [show zu (zu (zu (zu (zu s44 64 (P2 + 1) 2) 65 (P2 + 1) v42) 66 (P2 + 1) (P2 : Int)) 67 (P2 + 1) (-1)) 56 16 (((P2 + 1 : Nat) : Int) + 1) = ndM s44 (P2 + 1) 2 v42 (P2 : Int) from rfl, show ((P2 + 1 : Nat) : Int) + 1 - 1 = ((P2 + 1 : Nat) : Int) by omega]
  have e16 := ndM_16 s44 (P2 + 1) 2 v42 (P2 : Int) (by omega)
  have nn2 := fun c j h => ndM_ne s44 (P2 + 1) 2 v42 (P2 : Int) c j h
  have at2 := ndM_at s44 (P2 + 1) 2 v42 (P2 : Int) (by omega) (by decide)
  have f3 := FrMk.nd s44 (P2 + 1) m k 2 v42 (P2 : Int)
  generalize ndM s44 (P2 + 1) 2 v42 (P2 : Int) = s47 at *
  have f47 : FrMk P2 m k s40 s47 := (f1.tr f2 (by omega) (Nat.le_refl _) (Nat.le_refl _)).tr f3 (by omega) (Nat.le_refl _) (Nat.le_refl _)
  have fA : FrMk P m k s s47 := hF.tr f47 hP (Nat.le_refl _) (Nat.le_refl _)
  have e22 : ∀ j, j ≠ 16 → zz s47 56 j = zz s40 56 j := fun j h => by rw [nn2 56 j (by omega), z1 56 j (Or.inl (by decide)), nn 56 j (by omega)]
  have e99 : zz s47 99 m = (P2 : Int) := by rw [nn2 99 m (by omega)]; exact z99
  have e98 : ∀ j, zz s47 98 j = zz s40 98 j := fun j => by rw [nn2 98 j (by omega), z1 98 j (Or.inl (by decide)), nn 98 j (by omega)]
  have e99' : ∀ j, j ≠ m → zz s47 99 j = zz s40 99 j := fun j h => by rw [nn2 99 j (by omega), z1 99 j (Or.inr h), nn 99 j (by omega)]
  rcases hc with ⟨c1, c2, c3⟩ | ⟨c1, c2, c3, c4, c5, Lf, Lx, P1, s1, ⟨rfl, rfl⟩, d2, d3, ⟨d4, d5⟩, ⟨d6, d7⟩, d8, d9, d10, d11⟩
  · refine a_W.imp (m_joinF hB (by omega) _ _ s47 l (by rw [e22 22 (by decide), c1]; decide)) ?_
    rintro _ rfl
    have zz5 : ∀ c j, c ≠ 92 → c ≠ 93 → zz (zu (zu s47 92 0 v39) 93 0 ((P2 + 1 : Nat) : Int)) c j = zz s47 c j := fun c j h1 h2 => by rw [zz_ne _ _ _ _ _ _ (by omega), zz_ne _ _ _ _ _ _ (by omega)]
    have f5 : FrJm s47 (zu (zu s47 92 0 v39) 93 0 ((P2 + 1 : Nat) : Int)) := (FrJm.w s47 92 0 _ (by omega)).tr (FrJm.w _ 93 0 _ (by omega))
    refine ⟨_, l, rfl, _, _, P2 + 2, m2, rfl, fA.tr (f5.mk P2 m k) hP (Nat.le_refl _) (Nat.le_refl _), ⟨(zz5 56 16 (by decide) (by decide)).trans e16, by omega, hC⟩, ⟨(zz5 56 62 (by decide) (by decide)).trans ((e22 62 (by decide)).trans h62), by omega, hm2⟩, Or.inl ⟨(zz5 56 22 (by decide) (by decide)).trans ((e22 22 (by decide)).trans c1), (zz5 56 23 (by decide) (by decide)).trans ((e22 23 (by decide)).trans c2), c3⟩⟩
  · have lf : 0 < Lf.length := by have := (tm_pos Kf).1; omega
    have lx : 0 < Lx.length := by have := (tm_pos Kx).1; omega
    have hdm : ∀ (L : List Nat), 0 < L.length → (L.headD 0) ∈ L := fun L h => by
      cases L with
      | nil => exact absurd h (by decide)
      | cons a L => exact List.mem_cons_self
    have hfl := d8 _ (hdm Lf lf)
    have hxl := d9 _ (hdm Lx lx)
    obtain ⟨g1, g2, g3, g4, g5⟩ := at2 ⟨by omega, by omega⟩ ⟨by omega, by omega⟩
    have kp : ∀ c, 64 ≤ c → c ≤ 67 → ∀ j, j < P2 → zz s47 c j = zz s40 c j := fun c h1 h2 j hj => by rw [nn2 c j (by omega), z1 c j (Or.inl (by omega)), nn c j (by omega)]
    have k1 : ∀ c, 64 ≤ c → c ≤ 67 → zz s47 c P2 = zz s43 c P2 := fun c h1 h2 => by rw [nn2 c P2 (by omega), z1 c P2 (Or.inl (by omega))]
    have hN : BkM (arT ta) P2 (P2 + 2) s47 := (BkM.one (P := P2) (-1) (-1) (-1) ((k1 64 (by decide) (by decide)).trans b1) ((k1 65 (by decide) (by decide)).trans b2) ((k1 66 (by decide) (by decide)).trans b3) ((k1 67 (by decide) (by decide)).trans b4) ⟨by omega, by omega⟩ ⟨by omega, by omega⟩ (by decide) (fun c => absurd rfl c) (fun _ => ⟨by decide, by decide⟩)).app (BkM.one (P := P2 + 1) 2 _ _ g1 g2 g3 g4 ⟨by omega, by omega⟩ ⟨by omega, by omega⟩ (by decide) (fun _ => by rw [h2]; omega) (fun c => absurd c (by decide)))
    obtain ⟨⟨rt, u, q1⟩, q2, q3⟩ := d10.ap d11 hρ d6 d7 (by omega) lf lx d8 d9 e16 kp hN ((k1 64 (by decide) (by decide)).trans b1) g1 g2 g3
    refine a_W.imp (m_join hB hP2 (by omega) l q1 ((e22 22 (by decide)).trans c1) (Lf.headD 0) (P2 + 1) (by omega) (by omega)) ?_
    rintro _ ⟨s50, rfl, f5, hj⟩
    have j99 : ∀ j, zz s50 99 j = zz s47 99 j := fun j => zz_of (f5.1 99 (by decide) (by decide) (by decide) (by decide)) j
    have j98 : ∀ j, zz s50 98 j = zz s47 98 j := fun j => zz_of (f5.1 98 (by decide) (by decide) (by decide) (by decide)) j
    have j16 := (f5.2 16 (by decide) (by decide)).trans e16
    have j62 := (f5.2 62 (by decide) (by decide)).trans ((e22 62 (by decide)).trans h62)
    have e72 : zz s47 72 0 = zz s 72 0 := zz_of (fA.1 72 (by decide) (by decide) (by decide)) 0
    refine ⟨s50, l, rfl, s50, _, P2 + 2, m2, rfl, fA.tr (f5.mk P2 m k) hP (Nat.le_refl _) (Nat.le_refl _), ⟨j16, by omega, hC⟩, ⟨j62, by omega, hm2⟩, ?_⟩
    rcases hj with ⟨y1, y2, y3⟩ | ⟨y1, y2, rt2, u2, y3, y4⟩
    · exact Or.inl ⟨y1, y2.trans e72, Or.inr (q2 y3)⟩
    · have kr : ∀ j, m + 1 ≤ j → zz s50 98 j = zz s40 98 j ∧ zz s50 99 j = zz s40 99 j := fun j h => ⟨(j98 j).trans (e98 j), (j99 j).trans (e99' j (by omega))⟩
      refine Or.inr ⟨y1, y2.trans ((e22 23 (by decide)).trans c2), c3, c4, P2 :: (Lf ++ Lx), ?_, ?_, ?_, fun k hk => ?_, q3 s50 ⟨rt2, u2, y3⟩ y4⟩
      · show RwM s50 m (-1 :: (syK Kf ++ syK Kx)) (P2 :: (Lf ++ Lx))
        exact RwM.cons ((d2.keep (fun j h1 _ => kr j h1)).app (d3.keep (fun j h1 _ => kr j (by omega)))) ((j98 m).trans ((e98 m).trans c5)) ((j99 m).trans e99)
      · rw [j99, e99]; rfl
      · rw [List.length_cons, List.length_append, d4, d5]
        show _ = 1 + (tmW Kf + tmW Kx)
        omega
      · rcases List.mem_cons.mp hk with e | hk
        · omega
        · rcases List.mem_append.mp hk with hk | hk
          · have := d8 k hk; omega
          · have := d9 k hk; omega
end
