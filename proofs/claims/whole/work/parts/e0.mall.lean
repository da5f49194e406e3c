/-! THE REFERENCE MAKES A TERM: all of it -/
section
variable {t : Nat → Int} {n : Nat} {ns tn : List (List Int)} {ta : List Int} {cn : List (List Int)} {ct : List aT} {fx jj : Nat} {B : aH}
theorem lgA_b {m : Nat} {a b : aT} : lgA (.branch m a b) ↔ (if m = 0 then lgA a ∨ lgA b else if m = 2 then lgA a ∨ (40 < tyW b ∨ 12 < tyH b) else (40 < tyW a ∨ 12 < tyH a) ∨ lgA b) := Iff.rfl
theorem FrMk.wi {P m k : Nat} {s s2 : aZ} (f : FrMk P m k s s2) {v : Nat → Int} {T : aT} {lo hi : Nat} {w : Int} (h : WI s v T false lo hi w) : WI s2 v T false lo hi w := (WI.keep T).1 lo hi w h (fun k j h1 h2 _ _ _ => zz_of (f.1 k (by omega) (by omega) (by omega)) j)
theorem m_make (hB : a_Can B) (hcn : CnO cn) (hcp : CnP cn) (hct : CtO ct) (hN : tn.length ≤ 40) (hCt : ∀ c, c < cn.length → wfC tn.length ta (ct.getD c cNo) ∧ 0 < (pre (ct.getD c cNo)).length ∧ (pre (ct.getD c cNo)).length ≤ 40) (h2a : ta.getD 2 0 = 2) (hta : ∀ i, ta.getD i 0 ≤ 2) (hv : ∀ i, 0 ≤ vT t n ns i ∧ vT t n ns i ≤ 20000) (l : aZL) (hNm : MNm t n jj l) {W Q : Nat} (hQ : Q ≤ 30100) (hW : W ≤ 12100) : ∀ (T : aT), tmOk t n jj T → ¬ lgA T → ∀ (d : Nat) (es ρ : List Nat) (k P m : Nat) (p : Int) (s : aZ), 2 * aHt T + 50 ≤ d → k + aHt T ≤ 600 → P + mcT T ≤ 28000 → m + tmW T ≤ 510 → PH s (vT t n ns) W Q T p → MkI t n ns tn ta cn ct fx jj es ρ k P m s l → (∃ rt u, PEm (arT ta) P s rt u) → zz s 56 22 = 0 → unK (rsv t n cn T (es.map (nmK t n))) = false → a_W d 187 0 [.ref 56, iv p, .retAddr 0, .retAddr 0, .retAddr 0, .retAddr 0, .retAddr 0] [] (mkH B s l) (MkO t n ns tn ta ct B ρ (rsv t n cn T (es.map (nmK t n))) (mcT T) P m k s l) := by
  have h2 : arT ta 2 = 2 := by unfold arT; rw [if_neg (by decide), show ((2 : Int)).toNat = 2 from rfl, h2a]; rfl
  have h3 : arT ta 3 = 0 := by
    have := (hCt 10 (by have := hcn.1; omega)).1
    rw [hct.2.2.1] at this
    exact ar_of (by decide) this
  intro T
  induction T with
  | leaf q =>
    intro hok _ d es ρ k P m p s hd hk hP hm hp hI hE h22 hu
    have hI' := hI
    obtain ⟨i1, i2, i3, i4, i5, i6, i7, i8, i9⟩ := hI
    have hel := MEs.len es k i2
    have hrl := MEt.len ρ k i3
    obtain ⟨h1, -, -, h4⟩ := hp
    have hd : 2 * 1 + 50 ≤ d := hd
    have hk : k + 1 ≤ 600 := hk
    have hpos := (tm_pos (.leaf q)).1
    refine w187_0 hB (by omega) _ s l ⟨fun _ => ⟨⟨by omega, by omega⟩, ?_⟩, fun c => absurd c (by omega)⟩
    rcases h4 with ⟨q0, e82, e83⟩ | ⟨q0, e82, e83⟩ | ⟨q0, e82, e83⟩
    · have hC : mcT (.leaf q) = 41 := if_neg (by omega)
      rw [hC] at hP ⊢
      have hi : tkN t n jj q.2 := by
        rcases hok with ⟨-, h⟩ | ⟨h, -⟩ | ⟨h, -⟩
        · exact h
        · omega
        · omega
      have eK : rsv t n cn (.leaf q) (es.map (nmK t n)) = if ixE (es.map (nmK t n)) (nmK t n q.2) < (es.map (nmK t n)).length then .leaf (4, ixE (es.map (nmK t n)) (nmK t n q.2)) else cnK cn (nmK t n q.2) := if_pos q0
      rw [List.length_map] at eK
      rw [e82, e83]
      refine ⟨fun _ => w185_0 hB _ s l ?_, fun c => absurd c (by decide), fun c => absurd c (by decide), fun c => absurd c (by decide), fun c => absurd c (by decide), fun c => absurd rfl c.1⟩
      rw [i5]
      refine a_W.imp (m_bat hB (by omega) s l hNm hi es k (by omega) i2) ?_
      rintro _ rfl
      by_cases c : ixE (es.map (nmK t n)) (nmK t n q.2) < es.length
      · rw [if_pos c] at eK ⊢
        rw [eK]
        generalize ixE (es.map (nmK t n)) (nmK t n q.2) = e at *
        have hg := MEt.get ρ k e i3 (by omega)
        have hlt : ρ.getD e 0 < P := i4 _ (gd_mem ρ e (by omega))
        refine ⟨_, s, l, rfl, ⟨by omega, by omega⟩, fun x => absurd x (by omega), fun _ => ⟨⟨by omega, by omega⟩, ?_⟩⟩
        rw [i5, show ((k : Int) - 1 - (e : Int)).toNat = k - 1 - e by omega, hg, show 2 * ((k : Int) - 1 - ((k : Int) - 1 - (e : Int))) = syL (4, e) by show _ = 2 * (e : Int); omega]
        refine a_W.imp (m_md hB s l m (by omega) i7 _ _) ?_
        rintro _ rfl
        exact MkO.ret (MkO.leaf (q := (4, e)) (show (4 : Nat) ≠ 2 by decide) (FrMk.rf _ _ _ _) i6 (Nat.le_refl _) (by omega) hlt (by omega) (by rw [show syL (4, e) = 2 * (e : Int) from rfl]; exact ⟨by omega, by omega⟩) (by omega) h22 rfl (MVl.v (by omega) hE))
      · rw [if_neg c] at eK ⊢
        rw [eK] at hu ⊢
        have hf : 0 ≤ fd cn (nmK t n q.2) cn.length := Decidable.byContradiction (fun c => by
          have := (cnK_un cn (nmK t n q.2)).mpr (by omega)
          rw [this] at hu
          cases hu)
        have eC : cnK cn (nmK t n q.2) = .leaf (5, (fd cn (nmK t n q.2) cn.length).toNat) := if_pos hf
        rw [eC]
        have fr := fd_rng cn (nmK t n q.2)
        have run : a_W (d - 1) 186 0 [.ref 56, iv p] [] (mkH B s l) (fun r => r = (.inl (some (iv (((fd cn (nmK t n q.2) cn.length).toNat : Nat) : Int))), mkH B s l)) := by
          refine w186_0 hB (by omega) _ s l ⟨⟨by omega, by omega⟩, fun e => absurd e82 e, fun _ => ?_⟩
          rw [e83]
          refine a_W.imp (m_cof hB (by omega) s l i1.1 hNm hi) ?_
          rintro _ rfl
          refine ⟨_, s, l, rfl, ?_⟩
          rw [show (((fd cn (nmK t n q.2) cn.length).toNat : Nat) : Int) = fd cn (nmK t n q.2) cn.length by omega]
        refine ⟨_, s, l, rfl, by decide, fun _ => a_W.imp run ?_, fun e => absurd rfl e⟩
        rintro _ rfl
        refine ⟨_, s, l, rfl, a_W.imp run ?_⟩
        rintro _ rfl
        refine ⟨_, s, l, rfl, a_W.imp (m_con hB (by omega) hN hCt hI' hE h22 (by omega) (by omega) _ (by omega)) ?_⟩
        rintro _ ⟨s2, r, rfl, f2, h188⟩
        exact ⟨_, s2, l, rfl, a_W.imp (h188 (d - 1)) (fun q hq => hq.ret)⟩
    · have hC : mcT (.leaf q) = 41 := if_neg (by omega)
      rw [hC] at hP ⊢
      have eK : rsv t n cn (.leaf q) (es.map (nmK t n)) = sgR cn q.2 := (if_neg (by omega)).trans (if_pos q0)
      have hr : 10 ≤ q.2 ∧ q.2 ≤ 22 := by
        rcases hok with ⟨h, -⟩ | ⟨-, h⟩ | ⟨h, -⟩
        · omega
        · exact h
        · omega
      rw [eK] at hu ⊢
      rw [e82]
      refine ⟨fun c => absurd c (by decide), fun _ => a_W.imp (m_sig hB hcn hcp hct hN hCt (by omega) hr hu hI' hE h22 (by omega) (by omega) ⟨by omega, by omega⟩ e82 e83) (fun q hq => hq.ret), fun c => absurd c (by decide), fun c => absurd c (by decide), fun c => absurd c (by decide), fun c => absurd rfl c.2.1⟩
    · have hC : mcT (.leaf q) = q.2 + 1 := if_pos q0
      rw [hC] at hP ⊢
      have eK : rsv t n cn (.leaf q) (es.map (nmK t n)) = numK q.2 := (if_neg (by omega)).trans (if_neg (by omega))
      have hq : q.2 ≤ 49 := by
        rcases hok with ⟨h, -⟩ | ⟨h, -⟩ | ⟨-, h⟩
        · omega
        · omega
        · exact h
      have hw : tmW (.leaf q) = 2 * q.2 + 1 := if_pos q0
      rw [hw] at hm
      rw [eK, e82, e83]
      refine ⟨fun c => absurd c (by decide), fun c => absurd c (by decide), fun _ => a_W.imp (m_num hB (by omega) hct h2 h3 hI' hE h22 hq (by omega) (by omega)) (fun q hq => hq.ret), fun c => absurd c (by decide), fun c => absurd c (by decide), fun c => absurd rfl c.2.2.1⟩
  | branch mm a b iha ihb =>
    intro hok hlg d es ρ k P m p s hd hk hP hm hp hI hE h22 hu
    have hI' := hI
    obtain ⟨i1, i2, i3, i4, i5, i6, i7, i8, i9⟩ := hI
    obtain ⟨h1, -, -, h4⟩ := hp
    have hwK := (rsv_w t n jj cn _ (es.map (nmK t n)) hok).1
    refine w187_0 hB (by omega) _ s l ⟨fun _ => ⟨⟨by omega, by omega⟩, ?_⟩, fun c => absurd c (by omega)⟩
    rcases h4 with ⟨m0, e82, ga, gb⟩ | ⟨m1, e82, e83, gb, gt⟩ | ⟨m2, e82, ga, gt⟩
    · subst m0
      have ho : tmOk t n jj a ∧ tmOk t n jj b := by
        rcases hok with ⟨-, x, y⟩ | ⟨c, -⟩ | ⟨c, -⟩
        · exact ⟨x, y⟩
        · exact absurd c (by decide)
        · exact absurd c (by decide)
      have hh : aHt (.branch 0 a b) = 1 + max (aHt a) (aHt b) := rfl
      have hmc : mcT (.branch 0 a b) = 2 + (mcT a + mcT b) := rfl
      have hmw : tmW (.branch 0 a b) = 1 + (tmW a + tmW b) := rfl
      have hl2 : ¬ lgA a ∧ ¬ lgA b := ⟨fun c => hlg (Or.inl c), fun c => hlg (Or.inr c)⟩
      rw [hh] at hd hk
      rw [hmc] at hP ⊢
      rw [hmw] at hm
      have eK : rsv t n cn (.branch 0 a b) (es.map (nmK t n)) = apT (rsv t n cn a (es.map (nmK t n))) (rsv t n cn b (es.map (nmK t n))) := rfl
      rw [eK] at hu ⊢
      obtain ⟨u1, u2⟩ := Bool.or_eq_false_iff.mp (show (unK (rsv t n cn a (es.map (nmK t n))) || unK (rsv t n cn b (es.map (nmK t n)))) = false from hu)
      have wa := (rsv_w t n jj cn a (es.map (nmK t n)) ho.1).1
      have wb := (rsv_w t n jj cn b (es.map (nmK t n)) ho.2).1
      have hwA : tmW (apT (rsv t n cn a (es.map (nmK t n))) (rsv t n cn b (es.map (nmK t n)))) = 1 + (tmW a + tmW b) := by show 1 + (_ + _) = _; rw [wa, wb]
      rw [e82]
      refine ⟨fun c => absurd c (by decide), fun c => absurd c (by decide), fun c => absurd c (by decide), fun _ => a_W.imp (m_md hB s l m (by omega) i7 (-1) (-1)) ?_, fun c => absurd c (by decide), fun c => absurd rfl c.2.2.2.1⟩
      rintro _ rfl
      refine ⟨_, _, l, rfl, ?_⟩
      obtain ⟨a1, a2, a3⟩ := mdM_at s m (-1) (-1) (by omega) (by decide) (by decide)
      have fm := mdM_fr s P m k (-1) (-1)
      have ne := fun c j h => mdM_ne s m (-1) (-1) c j h
      generalize mdM s m (-1) (-1) = s1 at *
      have eq1 : eqP s s1 := fun c h1 h2 j => ne c j (by omega)
      have hI1 := hI'.fr fm ((ne 56 16 (by omega)).trans i6) a3 (Nat.le_refl _)
      obtain ⟨rt, u, hE⟩ := hE
      rw [zz_of (fm.1 83 (by decide) (by decide) (by decide))]
      refine a_W.imp (iha ho.1 hl2.1 (d - 1) es ρ k P (m + 1) _ s1 (by omega) (by omega) (by omega) (by omega) (fm.ph ga) hI1 ⟨rt, u, hE.vw eq1 (ne 56 16 (by omega))⟩ ((ne 56 22 (by omega)).trans h22) u1) ?_
      rintro _ ⟨s2, r1, P1, m1, rfl, f2, ⟨p1, p2, p3⟩, ⟨p4, p5, p6⟩, hR⟩
      refine ⟨_, s2, l, rfl, ?_⟩
      have f02 : FrMk P m k s s2 := fm.tr f2 (Nat.le_refl _) (by omega) (Nat.le_refl _)
      rw [zz_of (f02.1 84 (by decide) (by decide) (by decide))]
      have e72 : zz s1 72 0 = zz s 72 0 := zz_of (fm.1 72 (by decide) (by decide) (by decide)) 0
      rcases hR with ⟨x1, x2, x3⟩ | ⟨x1, x2, x3, x4, Lf, x5, x6, x7, x8, x9⟩
      · refine a_W.imp (m_makeF hB (by omega) _ s2 l (by rw [x1]; decide)) ?_
        rintro _ rfl
        refine ⟨_, s2, l, rfl, m_apT hB (by omega) h2 i4 i7 f02 p1 i9 p2 (by omega) (by omega) p4 (by omega) (by rw [hwA]; omega) (by rw [hwA]; omega) (Or.inl ⟨x1, x2.trans e72, ?_⟩)⟩
        rcases x3 with x3 | x3
        · left
          show (bdA t n tn ta _ || bdA t n tn ta _) = true
          rw [x3, Bool.true_or]
        · right
          intro v R hV hT
          obtain ⟨τ, Rf, Rx, q1, -⟩ := (tyd_ap _ _ _ _).mp hT
          rw [eq1.vw] at x3
          exact x3 v Rf hV q1
      · have hI2 := hI'.fr f02 p1 p4 p2
        refine a_W.imp (ihb ho.2 hl2.2 (d - 1) es ρ k P1 m1 _ s2 (by omega) (by omega) (by omega) (by omega) (f02.ph gb) hI2 x9.1 x1 u2) ?_
        rintro _ ⟨s3, r2, P2, m2, rfl, f3, ⟨o1, o2, o3⟩, ⟨o4, o5, o6⟩, hR2⟩
        have f03 : FrMk P m k s s3 := f02.tr f3 p2 (by omega) (Nat.le_refl _)
        have x9' := x9.vw0 eq1
        refine ⟨_, s3, l, rfl, m_apT hB (by omega) h2 i4 i7 f03 o1 i9 (by omega) (by omega) (by omega) o4 (by omega) (by rw [hwA]; omega) (by rw [hwA]; omega) ?_⟩
        rcases hR2 with ⟨y1, y2, y3⟩ | ⟨y1, y2, y3, y4, Lx, y5, y6, y7, y8, y9⟩
        · refine Or.inl ⟨y1, y2.trans (zz_of (f02.1 72 (by decide) (by decide) (by decide)) 0), ?_⟩
          rcases y3 with y3 | y3
          · left
            show (bdA t n tn ta _ || bdA t n tn ta _) = true
            rw [y3, Bool.or_true]
          · right
            intro v R hV hT
            obtain ⟨τ, Rf, Rx, q1, q2, -⟩ := (tyd_ap _ _ _ _).mp hT
            obtain ⟨v1, g1, g2, g3⟩ := x9'.2.2 v Rf hV q1
            exact y3 v1 Rx g1 (by rw [map_agree i4 g2]; exact q2)
        · refine Or.inr ⟨y1, y2.trans (x2.trans (ne 56 23 (by omega))), ?_, ?_, ?_, Lf, Lx, P1, s2, ⟨x6, y6⟩, x5.keep (fun j _ h2 => f3.2.2.2.2 j (by omega)), ?_, ⟨x7, y7⟩, ⟨p2, o2⟩, x8, y8, x9', y9⟩
          · show (bdA t n tn ta _ || bdA t n tn ta _) = false
            rw [x3, y3]
            rfl
          · rw [hwA]; omega
          · rw [(f3.2.2.2.2 m (by omega)).1, (f2.2.2.2.2 m (by omega)).1]; exact a1
          · rw [show m + 1 + Lf.length = m1 by omega]; exact y5
    · have n0 : ¬ mm = 0 := by omega
      have n2 : ¬ mm = 2 := by omega
      have ho : tkN t n jj (mm / 4) ∧ nmOk (tkN t n jj) a ∧ tmOk t n jj b := by
        rcases hok with ⟨c, -⟩ | ⟨-, x, y, z⟩ | ⟨c, -⟩
        · exact absurd c n0
        · exact ⟨x, y, z⟩
        · exact absurd c n2
      have hh : aHt (.branch mm a b) = 1 + aHt b := (if_neg n0).trans (if_neg n2)
      have hmc : mcT (.branch mm a b) = tyW a + 1 + mcT b := (if_neg n0).trans (if_neg n2)
      have hmw : tmW (.branch mm a b) = 1 + tmW b := (if_neg n0).trans (if_neg n2)
      have hl2 : ¬ (40 < tyW a ∨ 12 < tyH a) ∧ ¬ lgA b := by
        rw [lgA_b, if_neg n0, if_neg n2] at hlg
        exact ⟨fun c => hlg (Or.inl c), fun c => hlg (Or.inr c)⟩
      rw [hh] at hd hk
      rw [hmc] at hP ⊢
      rw [hmw] at hm
      have eK : rsv t n cn (.branch mm a b) (es.map (nmK t n)) = .branch 1 a (rsv t n cn b ((mm / 4 :: es).map (nmK t n))) := (if_neg n0).trans (if_neg n2)
      rw [eK] at hu ⊢
      have u1 : unK (rsv t n cn b ((mm / 4 :: es).map (nmK t n))) = false := hu
      have wb := (rsv_w t n jj cn b ((mm / 4 :: es).map (nmK t n)) ho.2.2).1
      have hi6 := (hNm _ ho.1).1
      have hb : ∀ (P1 : Nat), P1 + mcT b ≤ 28000 → ∀ (α : Nat) (s5 : aZ), (∀ c, c ≠ 56 → (c < 64 ∨ 67 < c) → (c < 92 ∨ 99 < c) → s5 c = s c) → MkI t n ns tn ta cn ct fx jj (mm / 4 :: es) (α :: ρ) (k + 1) P1 (m + 1) s5 l → (∃ rt u, PEm (arT ta) P1 s5 rt u) → zz s5 56 22 = 0 → a_W (d - 1 - 1) 187 0 [.ref 56, iv (zz s 84 p.toNat), .retAddr 0, .retAddr 0, .retAddr 0, .retAddr 0, .retAddr 0] [] (mkH B s5 l) (MkO t n ns tn ta ct B (α :: ρ) (rsv t n cn b ((mm / 4 :: es).map (nmK t n))) (mcT b) P1 (m + 1) (k + 1) s5 l) := fun P1 hP1 α s5 k5 hI5 hE5 h5 => ihb ho.2.2 hl2.2 (d - 1 - 1) (mm / 4 :: es) (α :: ρ) (k + 1) P1 (m + 1) _ s5 (by omega) (by omega) hP1 (by omega) (PH.keep (fun c j h1 h2 _ => zz_of (k5 c (by omega) (by omega) (by omega)) j) (fun c h1 h2 j _ => zz_of (k5 c (by omega) (by omega) (by omega)) j) (Nat.le_refl _) (Nat.le_refl _) b _ gb) hI5 hE5 h5 u1
      rw [e82]
      refine ⟨fun c => absurd c (by decide), fun c => absurd c (by decide), fun c => absurd c (by decide), fun c => absurd c (by decide), fun _ => ?_, fun c => absurd rfl c.2.2.2.2⟩
      suffices H : a_W (d - 1) 196 0 [.ref 56, iv p, .retAddr 0, .retAddr 0, .retAddr 0] [] (mkH B s l) (MkO t n ns tn ta ct B ρ (.branch 1 a (rsv t n cn b ((mm / 4 :: es).map (nmK t n)))) (tyW a + 1 + mcT b) P m k s l) from a_W.imp H (fun q hq => hq.ret)
      refine w196_0 hB (by omega) _ s l ⟨⟨by omega, by omega⟩, ⟨by omega, by omega⟩, ?_⟩
      rw [i7, natc, show zu (zu (zu s 98 m (-2)) 99 m (-1)) 56 62 ((m : Int) + 1) = mdM s m (-2) (-1) from rfl]
      obtain ⟨a1, a2, a3⟩ := mdM_at s m (-2) (-1) (by omega) (by decide) (by decide)
      have fm := mdM_fr s P m k (-2) (-1)
      have ne := fun c j h => mdM_ne s m (-2) (-1) c j h
      generalize mdM s m (-2) (-1) = s1 at *
      have eq1 : eqP s s1 := fun c h1 h2 j => ne c j (by omega)
      have e16 := (ne 56 16 (by omega)).trans i6
      obtain ⟨rt, u, hE⟩ := hE
      rcases gt with ⟨ga, e85⟩ | gt
      · have hta' : tyW a = 1 := by rw [ga]; rfl
        refine ⟨fun c => absurd e85 c, fun _ => w191_0 hB (by omega) s1 l ?_⟩
        rw [e16, natc]
        refine ⟨⟨by omega, by omega⟩, ?_⟩
        rw [show zu (zu (zu (zu (zu s1 64 P (-1)) 65 P (-1)) 66 P (-1)) 67 P (-1)) 56 16 ((P : Int) + 1) = ndM s1 P (-1) (-1) (-1) from rfl, show (P : Int) + 1 - 1 = (P : Int) by omega]
        obtain ⟨b1, b2, b3, b4, b5⟩ := ndM_at s1 P (-1) (-1) (-1) (by omega) (by decide) (by decide) (by decide)
        have nn := fun c j h => ndM_ne s1 P (-1) (-1) (-1) c j h
        have fn := FrMk.nd s1 P (m + 1) k (-1) (-1) (-1)
        generalize ndM s1 P (-1) (-1) (-1) = s2 at *
        have f02 : FrMk P m k s s2 := fm.tr fn (Nat.le_refl _) (by omega) (Nat.le_refl _)
        have hMV : MVa a P P s (P + 1) s2 t n ns tn ta := by
          rw [ga]
          exact MVa.un hE i9 b5 (fun c h1 h2 j hj => (nn c j (by omega)).trans (eq1 c h1 h2 j)) b1 b2 b3 b4
        have key := m_abT (C := tyW a + 1 + mcT b) (v6 := (P : Int)) hB (d := d - 1) (by omega) h2 hI' (by omega) e83 ho.1 hi6 f02 ((nn 56 62 (by omega)).trans a3) ((nn 98 m (by omega)).trans a1) b5 (by omega) (by omega) (by omega) (by rw [wb]; omega) (Or.inr ⟨(nn 56 22 (by omega)).trans ((ne 56 22 (by omega)).trans h22), (nn 56 23 (by omega)).trans (ne 56 23 (by omega)), by rw [ga]; rfl, P, rfl, hMV⟩) (hb (P + 1) (by omega))
        rw [i7, natc] at key
        exact ⟨_, s2, l, rfl, key⟩
      · have e85 : zz s 85 p.toNat ≠ -1 := by have := gt.rng; omega
        refine ⟨fun _ => ?_, fun c => absurd c e85⟩
        have hmm := m_meant hB hv hta h2a l (nB a) a (Nat.le_refl _) (d - 1 - 1) 0 W _ s1 P (by omega) hW (fm.wi gt) (i1.fr fm i8).2.1 (nmOk.imp (fun q hq => ⟨hq.2.1, hq.2.2, (i1.fr fm i8).2.2 q hq⟩) a ho.2.1) ((ne 56 22 (by omega)).trans h22) e16 (by omega)
        refine a_W.imp hmm ?_
        rintro _ ⟨s2, x, rfl, f2, P1, p1, p2, p3, p4⟩
        have f02 : FrMk P m k s s2 := fm.tr (f2.mk (m + 1) k) (Nat.le_refl _) (by omega) (Nat.le_refl _)
        have g62 : zz s2 56 62 = ((m + 1 : Nat) : Int) := (f2.2.1 62 (by decide) (by decide) (by decide)).trans a3
        have g98 : zz s2 98 m = -2 := (zz_of (f2.1 98 (by decide) (by decide)) m).trans a1
        have e72 : zz s1 72 0 = zz s 72 0 := zz_of (fm.1 72 (by decide) (by decide) (by decide)) 0
        have key := m_abT (C := tyW a + 1 + mcT b) (a := a) (Kb := rsv t n cn b ((mm / 4 :: es).map (nmK t n))) (v6 := x) hB (d := d - 1) (by omega) h2 hI' (by omega) e83 ho.1 hi6 f02 g62 g98 p1 p2 (by omega) (by omega) (by rw [wb]; omega) (by
          rcases p4 with ⟨y1, y2, y3, y4, y5, y6, y7⟩ | ⟨y1, y2, y3⟩
          · obtain ⟨X, eX⟩ : ∃ X : Nat, x = X := ⟨x.toNat, by omega⟩
            subst eX
            have hXl : X < P1 := by
              cases hcd : cdT t n ns tn a with
              | leaf q => rw [hcd] at y5; have : (X : Int) = -1 := y5; omega
              | branch e y z => rw [hcd] at y5; have := y5.1; omega
            exact Or.inr ⟨y2, y3.trans (ne 56 23 (by omega)), y1, X, rfl, (MVa.wr hE i9 p2 p1 (fun c h1 h2 j hj => (f2.2.2 c h1 h2 j hj).trans (eq1 c h1 h2 j)) hXl y7 y5).2⟩
          · refine Or.inl ⟨y2, y3.trans e72, Or.inl ?_⟩
            show (tyBad t n tn ta a || _) = true
            rw [y1, Bool.true_or]) (hb P1 (by omega))
        rw [i7, natc] at key
        exact ⟨_, s2, l, rfl, key⟩
    · subst m2
      have ho : tmOk t n jj a ∧ nmOk (tkN t n jj) b := by
        rcases hok with ⟨c, -⟩ | ⟨c, -⟩ | ⟨-, x, y⟩
        · exact absurd c (by decide)
        · exact absurd c (by decide)
        · exact ⟨x, y⟩
      have hh : aHt (.branch 2 a b) = 1 + aHt a := rfl
      have hmc : mcT (.branch 2 a b) = mcT a + tyW b := rfl
      have hmw : tmW (.branch 2 a b) = tmW a := rfl
      have hl2 : ¬ lgA a ∧ ¬ (40 < tyW b ∨ 12 < tyH b) := ⟨fun c => hlg (Or.inl c), fun c => hlg (Or.inr c)⟩
      rw [hh] at hd hk
      rw [hmc] at hP ⊢
      rw [hmw] at hm
      have eK : rsv t n cn (.branch 2 a b) (es.map (nmK t n)) = .branch 2 (rsv t n cn a (es.map (nmK t n))) b := rfl
      rw [eK] at hu ⊢
      have u1 : unK (rsv t n cn a (es.map (nmK t n))) = false := hu
      have wa := (rsv_w t n jj cn a (es.map (nmK t n)) ho.1).1
      have wK : tmW (.branch 2 (rsv t n cn a (es.map (nmK t n))) b) = tmW a := wa
      rw [e82]
      refine ⟨fun c => absurd c (by decide), fun c => absurd c (by decide), fun c => absurd c (by decide), fun c => absurd c (by decide), fun c => absurd c (by decide), fun _ => a_W.imp (iha ho.1 hl2.1 (d - 1) es ρ k P m _ s (by omega) (by omega) (by omega) (by omega) ga hI' hE h22 u1) ?_⟩
      rintro _ ⟨s2, r1, P1, m1, rfl, f2, ⟨p1, p2, p3⟩, ⟨p4, p5, p6⟩, hR⟩
      refine ⟨_, s2, l, rfl, ?_⟩
      rw [zz_of (f2.1 84 (by decide) (by decide) (by decide))]
      -- behind a fault
      have flt : ∀ (s3 : aZ) (v61 : Int) (P3 : Nat), FrMk P m k s s3 → zz s3 56 16 = (P3 : Nat) → P ≤ P3 → P3 ≤ P + (mcT a + tyW b) → zz s3 56 62 = (m1 : Nat) → zz s3 56 22 = 3 → zz s3 56 23 = zz s 72 0 → (bdA t n tn ta (.branch 2 (rsv t n cn a (es.map (nmK t n))) b) = true ∨ ∀ v R, Vl unM P (vwM s) v → ¬ tyd t n ns tn ct (.branch 2 (rsv t n cn a (es.map (nmK t n))) b) (ρ.map v) R) → a_W (d - 1) 193 0 [.ref 56, iv r1, iv v61, .retAddr 0, .retAddr 0, .retAddr 0, .retAddr 0] [] (mkH B s3 l) (fun r => ∃ (s62 : Nat → Nat → Int32) (l63 : Nat → Nat → Int64), r = (.inl none, mkH B s62 l63) ∧ MkO t n ns tn ta ct B ρ (.branch 2 (rsv t n cn a (es.map (nmK t n))) b) (mcT a + tyW b) P m k s l (.inl (some (iv r1)), (mkH B s62 l63))) := by
        intro s3 v61 P3 f3 c16 cP cP2 c62 c22 c23 cb
        refine a_W.imp (m_joinF hB (by omega) _ _ s3 l (by rw [c22]; decide)) ?_
        rintro _ rfl
        have zz5 : ∀ c j, c ≠ 92 → c ≠ 93 → zz (zu (zu s3 92 0 r1) 93 0 v61) c j = zz s3 c j := fun c j h1 h2 => by rw [zz_ne _ _ _ _ _ _ (by omega), zz_ne _ _ _ _ _ _ (by omega)]
        have f5 : FrJm s3 (zu (zu s3 92 0 r1) 93 0 v61) := (FrJm.w s3 92 0 _ (by omega)).tr (FrJm.w _ 93 0 _ (by omega))
        exact ⟨_, l, rfl, _, r1, P3, m1, rfl, f3.tr (f5.mk P m k) (Nat.le_refl _) (Nat.le_refl _) (Nat.le_refl _), ⟨(zz5 56 16 (by decide) (by decide)).trans c16, cP, cP2⟩, ⟨(zz5 56 62 (by decide) (by decide)).trans c62, p5, p6⟩, Or.inl ⟨(zz5 56 22 (by decide) (by decide)).trans c22, (zz5 56 23 (by decide) (by decide)).trans c23, cb⟩⟩
      rcases hR with ⟨x1, x2, x3⟩ | ⟨x1, x2, x3, x4, L, x5, x6, x7, x8, x9⟩
      · refine a_W.imp (m_meantF hB (by omega) _ s2 l (by rw [x1]; decide)) ?_
        rintro _ rfl
        refine ⟨_, s2, l, rfl, flt s2 0 P1 f2 p1 p2 (by omega) p4 x1 x2 ?_⟩
        rcases x3 with x3 | x3
        · left
          show (bdA t n tn ta _ || _) = true
          rw [x3, Bool.true_or]
        · right
          intro v R hV hT
          exact x3 v R hV ((tyd_as _ _ _ _).mp hT).1
      · have hC2 := i1.fr f2 i8
        have hmm := m_meant hB hv hta h2a l (nB b) b (Nat.le_refl _) (d - 1) 0 W _ s2 P1 (by omega) hW (f2.wi gt) hC2.2.1 (nmOk.imp (fun q hq => ⟨hq.2.1, hq.2.2, hC2.2.2 q hq⟩) b ho.2) x1 p1 (by omega)
        refine a_W.imp hmm ?_
        rintro _ ⟨s3, x, rfl, f3, P3, o1, o2, o3, o4⟩
        have f03 : FrMk P m k s s3 := f2.tr (f3.mk m1 k) p2 p5 (Nat.le_refl _)
        have g62 : zz s3 56 62 = (m1 : Nat) := (f3.2.1 62 (by decide) (by decide) (by decide)).trans p4
        refine ⟨_, s3, l, rfl, ?_⟩
        rcases o4 with ⟨y1, y2, y3, y4, y5, y6, y7⟩ | ⟨y1, y2, y3⟩
        · obtain ⟨X, eX⟩ : ∃ X : Nat, x = X := ⟨x.toNat, by omega⟩
          subst eX
          have hXl : X < P3 := by
            cases hcd : cdT t n ns tn b with
            | leaf q => rw [hcd] at y5; have : (X : Int) = -1 := y5; omega
            | branch e y z => rw [hcd] at y5; have := y5.1; omega
          obtain ⟨rt1, u1', hE1⟩ := x9.1
          have val := (MVa.wr (t := t) (n := n) (ns := ns) (tn := tn) (a := b) hE1 (by omega) o2 o1 (fun c h1 h2 j hj => f3.2.2 c h1 h2 j hj) hXl y7 y5).1
          have ll : 0 < L.length := by have := (tm_pos (rsv t n cn a (es.map (nmK t n)))).1; omega
          have hdm : (L.headD 0) ∈ L := by
            cases L with
            | nil => exact absurd ll (by decide)
            | cons a L => exact List.mem_cons_self
          have hLl := x8 _ hdm
          obtain ⟨⟨rt3, u3, q1⟩, q2, q3⟩ := x9.as o2 (by omega) ll x8 o1 (fun c h1 h2 j hj => f3.2.2 c h1 h2 j hj) (okD.bk y7) val
          rw [x6]
          refine a_W.imp (m_join hB (by omega) (by omega) l q1 y2 (L.headD 0) X (by omega) hXl) ?_
          rintro _ ⟨s4, rfl, f4, hj⟩
          have e72 : zz s3 72 0 = zz s 72 0 := zz_of (f03.1 72 (by decide) (by decide) (by decide)) 0
          refine ⟨s4, l, rfl, s4, _, P3, m1, rfl, f03.tr (f4.mk P m k) (Nat.le_refl _) (Nat.le_refl _) (Nat.le_refl _), ⟨(f4.2 16 (by decide) (by decide)).trans o1, by omega, by omega⟩, ⟨(f4.2 62 (by decide) (by decide)).trans g62, p5, p6⟩, ?_⟩
          rcases hj with ⟨z1, z2, z3⟩ | ⟨z1, z2, rt2, u2, z3, z4⟩
          · exact Or.inl ⟨z1, z2.trans e72, Or.inr (fun v R hV hT => q2 z3 v R p2 hV hT)⟩
          · refine Or.inr ⟨z1, z2.trans (y3.trans x2), ?_, x4, L, ?_, rfl, x7, fun y hy => by have := x8 y hy; omega, q3 s4 p2 ⟨rt2, u2, z3⟩ z4⟩
            · show (bdA t n tn ta _ || tyBad t n tn ta b) = false
              rw [x3, y1]
              rfl
            · exact x5.keep (fun j _ _ => ⟨(zz_of (f4.1 98 (by decide) (by decide) (by decide) (by decide)) j).trans (zz_of (f3.1 98 (by decide) (by decide)) j), (zz_of (f4.1 99 (by decide) (by decide) (by decide) (by decide)) j).trans (zz_of (f3.1 99 (by decide) (by decide)) j)⟩)
        · refine flt s3 x P3 f03 o1 (by omega) (by omega) g62 y2 (y3.trans (zz_of (f2.1 72 (by decide) (by decide) (by decide)) 0)) (Or.inl ?_)
          show (bdA t n tn ta _ || tyBad t n tn ta b) = true
          rw [y1, Bool.or_true]
end
