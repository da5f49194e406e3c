/-! THE REFERENCE MAKES A TERM -/
section
variable {t : Nat → Int} {n : Nat} {ns tn : List (List Int)} {ta : List Int} {cn : List (List Int)} {ct : List aT} {fx jj : Nat} {B : aH}
theorem ar_of {N : Nat} {c : Int} (hc : 0 ≤ c) (h : wfC N ta (.branch (enc c) cNo cNo)) : arT ta c = 0 := by
  obtain ⟨h1, -⟩ := h
  rw [dec_enc (by omega)] at h1
  rcases h1 with ⟨-, h, -⟩ | ⟨-, -, h⟩
  · omega
  · unfold arT
    rw [if_neg (by omega), h]
    rfl
/-- the constant of a sign -/
theorem m_sgn (hB : a_Can B) (hcn : CnO cn) (hcp : CnP cn) {k : Nat} (hr : 10 ≤ k ∧ k ≤ 22) (hu : unK (sgR cn k) = false) {s : aZ} {l : aZL} (hM : MCo cn ct fx s l) {p : Int} (hp : 0 ≤ p ∧ p < 30100) (e82 : zz s 82 p.toNat = 1) (e83 : (k ≤ 13 ∧ zz s 83 p.toNat = sgC k) ∨ (14 ≤ k ∧ zz s 83 p.toNat = -1 ∧ zz s 84 p.toNat = kM k)) : ∃ c : Nat, c < cn.length ∧ ((k = 14 ∧ c = 0 ∧ sgR cn k = .leaf (6, 0)) ∨ (k ≠ 14 ∧ sgR cn k = .leaf (5, c))) ∧ ∀ d, 1 ≤ d → a_W d 186 0 [.ref 56, iv p] [] (mkH B s l) (fun r => r = (.inl (some (iv (c : Int))), mkH B s l)) := by
  have fr := fd_rng cn (opN (k : Int))
  obtain ⟨-, -, -, -, -, -, -, a8, ⟨b20, b21, b22, b23, b24⟩, -⟩ := hM
  obtain ⟨l12, -, c10, c11, c12, c13⟩ := hcn
  have key : k ≠ 14 → 0 ≤ fd cn (opN (k : Int)) cn.length ∧ sgR cn k = .leaf (5, (fd cn (opN (k : Int)) cn.length).toNat) := fun hk => by
    unfold sgR cnK at hu ⊢
    rw [if_neg hk] at hu ⊢
    by_cases c : 0 ≤ fd cn (opN (k : Int)) cn.length
    · rw [if_pos c]; exact ⟨c, rfl⟩
    · rw [if_neg c] at hu; cases hu
  have run : ∀ x : Int, ((k ≤ 13 ∧ sgC k = x) ∨ (14 ≤ k ∧ zz s 60 (k + 6) = x)) → ∀ d, 1 ≤ d → a_W d 186 0 [.ref 56, iv p] [] (mkH B s l) (fun r => r = (.inl (some (iv x)), mkH B s l)) := fun x hx d hd => by
    rcases e83 with ⟨k13, e83⟩ | ⟨k14, e83, e84⟩
    · refine w186_0 hB (by omega) _ s l ⟨hp, fun _ => ⟨fun _ => ?_, fun c => absurd c ?_⟩, fun c => absurd c (by rw [e82]; decide)⟩
      · rw [e83]
        rcases hx with ⟨-, e⟩ | ⟨c, -⟩
        · rw [e]
        · omega
      · rw [e83]; unfold sgC; omega
    · have ek : kM (k : Int) = ((k + 6 : Nat) : Int) := by rw [kM_op (by omega)]; omega
      rw [ek] at e84
      refine w186_0 hB (by omega) _ s l ⟨hp, fun _ => ⟨fun c => absurd e83 c, fun _ => ?_⟩, fun c => absurd c (by rw [e82]; decide)⟩
      rw [e84, natc]
      refine ⟨⟨by omega, by omega⟩, ?_⟩
      rcases hx with ⟨c, -⟩ | ⟨-, e⟩
      · omega
      · rw [e]
  by_cases h14 : k = 14
  · refine ⟨0, by omega, Or.inl ⟨h14, rfl, by unfold sgR; rw [if_pos h14]⟩, run 0 (Or.inr ⟨by omega, by rw [h14]; exact b20⟩)⟩
  · obtain ⟨g1, g2⟩ := key h14
    have e0 : ((fd cn (opN (k : Int)) cn.length).toNat : Int) = fd cn (opN (k : Int)) cn.length := by omega
    refine ⟨(fd cn (opN (k : Int)) cn.length).toNat, by omega, Or.inr ⟨h14, g2⟩, run _ ?_⟩
    rw [e0]
    obtain ⟨p15, p16, p17, p18⟩ := hcp
    rcases (show k = 10 ∨ k = 11 ∨ k = 12 ∨ k = 13 ∨ k = 15 ∨ k = 16 ∨ k = 17 ∨ k = 18 ∨ 19 ≤ k by omega) with e | e | e | e | e | e | e | e | e
    · rw [e]; exact Or.inl ⟨by decide, (show sgC 10 = 7 by decide).trans c10.symm⟩
    · rw [e]; exact Or.inl ⟨by decide, (show sgC 11 = 8 by decide).trans c11.symm⟩
    · rw [e]; exact Or.inl ⟨by decide, (show sgC 12 = 9 by decide).trans c12.symm⟩
    · rw [e]; exact Or.inl ⟨by decide, (show sgC 13 = 3 by decide).trans c13.symm⟩
    · rw [e]; exact Or.inr ⟨by decide, b21.trans p15.symm⟩
    · rw [e]; exact Or.inr ⟨by decide, b22.trans p16.symm⟩
    · rw [e]; exact Or.inr ⟨by decide, b23.trans p17.symm⟩
    · rw [e]; exact Or.inr ⟨by decide, b24.trans p18.symm⟩
    · exact Or.inr ⟨by omega, a8 k e hr.2⟩
/-- a sign is made -/
theorem m_sig (hB : a_Can B) (hcn : CnO cn) (hcp : CnP cn) (hct : CtO ct) (hN : tn.length ≤ 40) (hCt : ∀ c, c < cn.length → wfC tn.length ta (ct.getD c cNo) ∧ 0 < (pre (ct.getD c cNo)).length ∧ (pre (ct.getD c cNo)).length ≤ 40) {d : Nat} (hd : 46 ≤ d) {kk : Nat} (hr : 10 ≤ kk ∧ kk ≤ 22) (hu : unK (sgR cn kk) = false) {es ρ : List Nat} {k P m : Nat} {s : aZ} {l : aZL} (hI : MkI t n ns tn ta cn ct fx jj es ρ k P m s l) (hE : ∃ rt u, PEm (arT ta) P s rt u) (h22 : zz s 56 22 = 0) (hP : P + 41 ≤ 29000) (hm : m < 520) {p : Int} (hp : 0 ≤ p ∧ p < 30100) (e82 : zz s 82 p.toNat = 1) (e83 : (kk ≤ 13 ∧ zz s 83 p.toNat = sgC kk) ∨ (14 ≤ kk ∧ zz s 83 p.toNat = -1 ∧ zz s 84 p.toNat = kM kk)) : a_W d 192 0 [.ref 56, iv p, .retAddr 0, .retAddr 0] [] (mkH B s l) (MkO t n ns tn ta ct B ρ (sgR cn kk) 41 P m k s l) := by
  obtain ⟨c, hc, hcase, run⟩ := m_sgn hB hcn hcp hr hu hI.1.1 hp e82 e83
  refine w192_0 hB (by omega) _ s l (a_W.imp (run (d - 1) (by omega)) ?_)
  rintro _ rfl
  refine ⟨_, s, l, rfl, ?_⟩
  rcases hcase with ⟨h14, rfl, eS⟩ | ⟨h14, eS⟩
  · rw [eS]
    obtain ⟨i1, i2, i3, i4, i5, i6, i7, i8, i9⟩ := hI
    obtain ⟨rt, u, hE⟩ := hE
    obtain ⟨w1, w2, w3⟩ := hCt 0 hc
    refine a_W.imp (m_use hB (by omega) s l i1.1 0 hc w1 w2 w3 hN P i6 i8 (by omega)) ?_
    rintro _ ⟨s2, r, P2, g, rfl, f2, ⟨p1, p2, p3⟩, p4, p5, p6, p7⟩
    have fm := f2.mk m k
    obtain ⟨e1, e2, e3⟩ := use_val hE i9 p2 p1 f2 p5 p6 p7 w1
    have e84 : zz s2 84 p.toNat = 20 ∧ zz s2 83 p.toNat = -1 := by
      rw [zz_of (fm.1 84 (by decide) (by decide) (by decide)), zz_of (fm.1 83 (by decide) (by decide) (by decide))]
      rcases e83 with ⟨c, -⟩ | ⟨-, a, b⟩
      · omega
      · rw [a, b, h14]; decide
    refine ⟨_, s2, l, rfl, hp, fun q => absurd e84.2 q, fun _ => ⟨fun q => absurd e84.1 q, fun _ => ⟨⟨by omega, by omega⟩, ?_⟩⟩⟩
    rw [p1, natc, natc]
    refine ⟨⟨by omega, by omega⟩, ?_⟩
    rw [show zu (zu (zu (zu (zu s2 64 P2 0) 65 P2 (-1)) 66 P2 (-1)) 67 P2 (-1)) 56 16 ((P2 : Int) + 1) = ndM s2 P2 0 (-1) (-1) from rfl, show (P2 : Int) + 1 - 1 = (P2 : Int) by omega]
    have l5 : (pre (ct.getD 0 cNo)).length = 5 := by rw [hct.1]; decide
    obtain ⟨a, ea, hal⟩ : ∃ a : Nat, zz s2 65 r = (a : Nat) ∧ a < P2 := by
      have hC := p7
      rw [hct.1] at hC
      obtain ⟨-, -, h3, -⟩ := (CV.n (show ¬ dec (enc 2) < 0 by rw [dec_enc (by decide)]; decide)).mp hC
      rw [natc] at h3
      have rg := CV.rng p5 _ _ h3
      exact ⟨(zz s2 65 r).toNat, by have := rg.2.2.mpr rfl; omega, by omega⟩
    rw [ea]
    obtain ⟨b1, b2, b3, b4, b5⟩ := ndM_at s2 P2 0 (-1) (-1) (by omega) (by decide) (by decide) (by decide)
    have nn := fun c j h => ndM_ne s2 P2 0 (-1) (-1) c j h
    have fn := FrMk.nd s2 P2 m k 0 (-1) (-1)
    generalize ndM s2 P2 0 (-1) (-1) = s3 at *
    have h60 : arT ta 0 = 0 := by
      have := (hCt 6 (by have := hcn.1; omega)).1
      rw [hct.2.1] at this
      exact ar_of (by decide) this.2.2.1
    have hNb : BkM (arT ta) P2 (P2 + 1) s3 := BkM.one (P := P2) 0 (-1) (-1) b1 b2 b3 b4 ⟨by omega, by omega⟩ ⟨by omega, by omega⟩ (by decide) (fun _ => by rw [h60]; omega) (fun c => absurd c (by decide))
    obtain ⟨⟨rt3, u3, q1⟩, q2, q3⟩ := iff_val (t := t) (n := n) (ns := ns) (tn := tn) (ρ := ρ) hct (by omega) e1 e2 e3 p4 p2 p7 ea b5 (fun c h1 h2 j hj => nn c j (by omega)) hNb b1 b2 b3
    have f3 : FrMk P m k s s3 := fm.tr fn p2 (Nat.le_refl _) (Nat.le_refl _)
    have z3 : ∀ j, j ≠ 16 → j ≠ 58 → zz s3 56 j = zz s 56 j := fun j h1 h2 => (nn 56 j (by omega)).trans (f2.2.1 j h1 h2)
    refine a_W.imp (m_join hB (by omega) (by omega) l q1 ((z3 22 (by decide) (by decide)).trans h22) a P2 (by omega) (by omega)) ?_
    rintro _ ⟨s12, rfl, f12, hj⟩
    refine ⟨s12, l, rfl, w192_50 hB (by omega) _ _ _ s12 l (a_W.imp (m_md hB s12 l m hm ((f12.2 62 (by decide) (by decide)).trans ((z3 62 (by decide) (by decide)).trans i7)) _ _) ?_)⟩
    rintro _ rfl
    have fA : FrMk P m k s s12 := f3.tr (f12.mk P2 m k) (by omega) (Nat.le_refl _) (Nat.le_refl _)
    have j16 := (f12.2 16 (by decide) (by decide)).trans b5
    rcases hj with ⟨y1, y2, y3⟩ | ⟨y1, y2, rt2, u2, y3, y4⟩
    · have fm' := mdM_fr s12 P m k (2 * ((0 : Nat) : Int) + 1) (r : Int)
      have ne := fun c j h => mdM_ne s12 m (2 * ((0 : Nat) : Int) + 1) (r : Int) c j h
      obtain ⟨-, -, a3⟩ := mdM_at s12 m (2 * ((0 : Nat) : Int) + 1) (r : Int) (by omega) (by decide) ⟨by omega, by omega⟩
      generalize mdM s12 m (2 * ((0 : Nat) : Int) + 1) (r : Int) = s13 at *
      refine MkO.ret ⟨s13, r, P2 + 1, m + 1, rfl, fA.tr fm' (Nat.le_refl _) (Nat.le_refl _) (Nat.le_refl _), ⟨(ne 56 16 (by omega)).trans j16, by omega, by omega⟩, ⟨a3, by omega, by show m + 1 ≤ m + 1; omega⟩, Or.inl ⟨(ne 56 22 (by omega)).trans y1, (ne 56 23 (by omega)).trans (y2.trans (zz_of (f3.1 72 (by decide) (by decide) (by decide)) 0)), Or.inr (fun v R hV _ => q2 y3 v hV)⟩⟩
    · exact MkO.ret (MkO.leaf (q := (6, 0)) (show (6 : Nat) ≠ 2 by decide) fA j16 (by omega) (by omega) (by omega) (by omega) (by decide) (by omega) y1 (y2.trans (z3 23 (by decide) (by decide))) (q3 s12 ⟨rt2, u2, y3⟩ y4))
  · rw [eS]
    refine a_W.imp (m_con hB (by omega) hN hCt hI hE h22 (by omega) hm c hc) ?_
    rintro _ ⟨s2, r, rfl, f2, h188⟩
    have z83 : zz s2 83 p.toNat = zz s 83 p.toNat := zz_of (f2.1 83 (by decide) (by decide) (by decide)) _
    have z84 : zz s2 84 p.toNat = zz s 84 p.toNat := zz_of (f2.1 84 (by decide) (by decide) (by decide)) _
    have go : a_W d 192 50 [.ref 56, iv p, iv (c : Int), iv (r : Int)] [] (mkH B s2 l) (MkO t n ns tn ta ct B ρ (.leaf (5, c)) 41 P m k s l) := w192_50 hB (by omega) _ _ _ s2 l (a_W.imp (h188 (d - 1)) (fun q hq => hq.ret))
    refine ⟨_, s2, l, rfl, hp, fun _ => go, fun q => ⟨fun _ => go, fun q2 => ?_⟩⟩
    exfalso
    rw [z83] at q
    rw [z84] at q2
    rcases e83 with ⟨-, a⟩ | ⟨a0, -, a⟩
    · rw [a] at q
      unfold sgC at q
      omega
    · rw [a, kM_op (by omega)] at q2
      omega
end
