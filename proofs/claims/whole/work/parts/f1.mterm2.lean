/-! THE REFERENCE'S CALL term, whole -/
section
variable {t : Nat → Int} {n : Nat} {vs tn : List (List Int)} {ta : List Int} {cn : List (List Int)} {ct : List aT} {fx : Nat} {B : aH}
def FrTm (s s2 : aZ) (l l2 : aZL) : Prop := (∀ k, k ≠ 56 → (k < 64 ∨ 104 < k) → s2 k = s k) ∧ ∀ k, k ≠ 74 → k ≠ 63 → l2 k = l k
def MTm (t : Nat → Int) (n : Nat) (vs tn : List (List Int)) (ta : List Int) (cn : List (List Int)) (ct : List aT) (fx : Nat) (res : (Int × Nat) ⊕ (aT × Nat)) (B : aH) (s0 : aZ) (l0 : aZL) (q : aR) : Prop := ∃ s2 l2, FrTm s0 s2 l0 l2 ∧ (zz s2 56 0 = 0 ∧ zz s2 56 2 = 0 ∧ MTy tn ta s2 l2 ∧ MCo cn ct fx s2 l2 ∧ MFx ta fx s2) ∧ ((∃ f j, res = .inl (f, j) ∧ q = (.inl (some (iv (-1))), mkH B s2 l2) ∧ zz s2 56 22 = f ∧ zz s2 56 23 = stT t n j ∧ MV (nsT t n vs (j + 1)) s2 l2 ∧ KpS s0 s2) ∨ (∃ T j, res = .inr (T, j) ∧ MV (nsT t n vs (j + 1)) s2 l2 ∧ ((∃ fv, fv ≠ 0 ∧ Vd t n vs tn ta ct T (rsv t n cn T []) fv ∧ q = (.inl (some (iv (-1))), mkH B s2 l2) ∧ zz s2 56 22 = fv ∧ zz s2 56 23 = stT t n 0 ∧ KpS s0 s2) ∨ (Vd t n vs tn ta ct T (rsv t n cn T []) 0 ∧ ∃ R0, prR t n vs tn ct (rsv t n cn T []) R0 ∧ q = (.inl (some (iv (tmW T : Int))), mkH B s2 l2) ∧ zz s2 56 22 = 0 ∧ zz s2 56 23 = -1 ∧ ShM s2 (syK (rsv t n cn T [])) (wrL R0 []).1))))
/-- what stands while the term is read -/
def FrTr (fx : Nat) (s0 s : aZ) (l0 l : aZL) : Prop := (∀ k, k ≠ 56 → k ≠ 67 → (k < 71 ∨ 91 < k) → s k = s0 k) ∧ (∀ j, j ∈ [3, 4, 17, 18] → zz s 56 j = zz s0 56 j) ∧ (zz s 56 0 = 0 ∧ zz s 56 2 = 0 ∧ zz s 56 16 = (fx : Nat)) ∧ (∀ j, j < fx → zz s 67 j = -1) ∧ ∀ k, k ≠ 74 → k ≠ 63 → l k = l0 k
theorem FrTr.p {s0 s s2 : aZ} {l0 l l2 : aZL} (h : FrTr fx s0 s l0 l) (f : FrP s s2 l l2) : FrTr fx s0 s2 l0 l2 := ⟨fun k h1 h2 h3 => (f.1 k h1 h3).trans (h.1 k h1 h2 h3), fun j hj => (f.2.1 j (fun q => by simp only [List.mem_cons, List.not_mem_nil, or_false] at q hj; omega)).trans (h.2.1 j hj), ⟨(f.2.1 0 (by decide)).trans h.2.2.1.1, (f.2.1 2 (by decide)).trans h.2.2.1.2.1, (f.2.1 16 (by decide)).trans h.2.2.1.2.2⟩, fun j hj => (zz_of (f.1 67 (by decide) (by decide)) j).trans (h.2.2.2.1 j hj), fun k h1 h2 => (f.2.2 k h1 h2).trans (h.2.2.2.2 k h1 h2)⟩
theorem FrTr.m {s0 s s2 : aZ} {l0 l l2 : aZL} (h : FrTr fx s0 s l0 l) (f : FrM s s2 l l2) : FrTr fx s0 s2 l0 l2 := ⟨fun k h1 h2 h3 => (f.1 k h1 (by omega) (by omega) (by omega)).trans (h.1 k h1 h2 h3), fun j hj => (f.2.1 j (fun q => by simp only [List.mem_cons, List.not_mem_nil, or_false] at q hj; omega)).trans (h.2.1 j hj), ⟨(f.2.1 0 (by decide)).trans h.2.2.1.1, (f.2.1 2 (by decide)).trans h.2.2.1.2.1, (f.2.1 16 (by decide)).trans h.2.2.1.2.2⟩, fun j hj => (zz_of (f.1 67 (by decide) (by decide) (by decide) (by decide)) j).trans (h.2.2.2.1 j hj), fun k h1 h2 => (f.2.2 k h1 h2).trans (h.2.2.2.2 k h1 h2)⟩
theorem FrTr.now {s0 s : aZ} {l0 l : aZL} (h : FrTr fx s0 s l0 l) (x : Int) : FrTr fx s0 (zu s 56 31 x) l0 l := ⟨fun k h1 h2 h3 => (zu_ne _ _ _ _ _ h1).trans (h.1 k h1 h2 h3), fun j hj => (zz_ne _ _ _ _ _ _ (fun q => by rw [q.2] at hj; exact absurd hj (by decide))).trans (h.2.1 j hj), ⟨(zz_ne _ _ _ _ _ _ (by omega)).trans h.2.2.1.1, (zz_ne _ _ _ _ _ _ (by omega)).trans h.2.2.1.2.1, (zz_ne _ _ _ _ _ _ (by omega)).trans h.2.2.1.2.2⟩, fun j hj => (zz_ne _ _ _ _ _ _ (by omega)).trans (h.2.2.2.1 j hj), h.2.2.2.2⟩
theorem FrTr.fin {s0 s s2 : aZ} {l0 l : aZL} (h : FrTr fx s0 s l0 l) (f : FrZ fx s s2) (hT : MTy tn ta s0 l0) (hM : MCo cn ct fx s0 l0) (hF : MFx ta fx s0) : FrTm s0 s2 l0 l ∧ zz s2 56 0 = 0 ∧ zz s2 56 2 = 0 ∧ MTy tn ta s2 l ∧ MCo cn ct fx s2 l ∧ MFx ta fx s2 := by
  have k : ∀ k, k ≠ 56 → (k < 64 ∨ 104 < k) → s2 k = s0 k := fun k h1 h2 => (f.1 k h1 (by omega)).trans (h.1 k h1 (by omega) (by omega))
  have nd : ∀ c, 64 ≤ c → c ≤ 66 → ∀ j, j < fx → zz s2 c j = zz s0 c j := fun c h1 h2 j hj => (f.2.2 c h1 h2 j hj).trans (zz_of (h.1 c (by omega) (by omega) (by omega)) j)
  exact ⟨⟨k, h.2.2.2.2⟩, (f.2.1 0 (by decide)).trans h.2.2.1.1, (f.2.1 2 (by decide)).trans h.2.2.1.2.1, hT.fr ((f.2.1 4 (by decide)).trans (h.2.1 4 (by decide))) (k 62 (by decide) (by decide)) (h.2.2.2.2 61 (by decide) (by decide)), hM.fr ((f.2.1 3 (by decide)).trans (h.2.1 3 (by decide))) ((f.2.1 17 (by decide)).trans (h.2.1 17 (by decide))) (k 59 (by decide) (by decide)) (k 60 (by decide) (by decide)) nd (h.2.2.2.2 58 (by decide) (by decide)), fun j hj => (hF j hj).k (fun c h1 h2 => nd c h1 h2 j hj)⟩
theorem FrTr.kp {s0 s s2 : aZ} {l0 l : aZL} (h : FrTr fx s0 s l0 l) (f : KpS s s2) : KpS s0 s2 := ⟨f.1.trans (h.1 68 (by decide) (by decide) (by decide)), f.2.1.trans (h.1 69 (by decide) (by decide) (by decide)), f.2.2.1.trans (h.1 70 (by decide) (by decide) (by decide)), f.2.2.2.trans (h.2.1 18 (by decide))⟩
/-- behind a fault of the reading -/
theorem m_tmF (hB : a_Can B) {d : Nat} (hd : 1 ≤ d) (x1 x2 : Int) {s0 s : aZ} {l0 l : aZL} (h : FrTr fx s0 s l0 l) (hT : MTy tn ta s0 l0) (hM : MCo cn ct fx s0 l0) (hFx : MFx ta fx s0) {f : Int} {j : Nat} {res : (Int × Nat) ⊕ (aT × Nat)} (hr : res = .inl (f, j)) (hF : MF t n f (stT t n j) (nsT t n vs (j + 1)) s l) : a_W d 143 62 [.ref 56, iv x1, iv x2, .retAddr 0] [] (mkH B s l) (MTm t n vs tn ta cn ct fx res B s0 l0) := by
  have f2 := hF.2.1
  have f3 := hF.2.2.1
  have f4 := hF.2.2.2.1
  obtain ⟨a1, a2⟩ := FrZ.z (fx := fx) s 59 0 (by decide) (by decide)
  obtain ⟨b1, b2⟩ := FrZ.z (fx := fx) (zu s 56 59 0) 62 0 (by decide) (by decide)
  have fz := a1.tr b1
  obtain ⟨c1, c2⟩ := h.fin fz hT hM hFx
  refine m_t62f hB hd _ _ s l (by omega) ⟨_, l, c1, c2, Or.inl ⟨f, j, hr, rfl, ?_, ?_, ?_, h.kp (a2.tr b2)⟩⟩
  · rw [zz_ne _ _ _ _ _ _ (by omega), zz_ne _ _ _ _ _ _ (by omega)]; exact f3
  · rw [zz_ne _ _ _ _ _ _ (by omega), zz_ne _ _ _ _ _ _ (by omega)]; exact f4
  · exact (hF.2.2.2.2.2.2.z56 59 0 (by decide)).z56 62 0 (by decide)
theorem m_term (hB : a_Can B) {d : Nat} (hd : 400 ≤ d) (hcap : MCap t n vs) (hv : ∀ i, 0 ≤ vT t n vs i ∧ vT t n vs i ≤ 20000) (hta : ∀ i, ta.getD i 0 ≤ 2) (h2a : ta.getD 2 0 = 2) (hcn : CnO cn) (hcp : CnP cn) (hct : CtO ct) (hCt : ∀ c, c < cn.length → wfC tn.length ta (ct.getD c cNo) ∧ 0 < (pre (ct.getD c cNo)).length ∧ (pre (ct.getD c cNo)).length ≤ 40) (hn : n ≤ 8000) {s0 : aZ} {l0 : aZL} (hfed : (n : Int) ≤ zz s0 56 2) (hb : ∀ j, j < n → zz s0 57 j = t j ∧ 0 ≤ t j ∧ t j < 256) (hV : MV vs s0 l0) (hT : MTy tn ta s0 l0) (hM : MCo cn ct fx s0 l0) (hFx : MFx ta fx s0) (hf0 : 0 < fx) {N : Nat} {res : (Int × Nat) ⊕ (aT × Nat)} (hres : ptm t n N 0 0 [] noT 0 = some res) : a_W d 143 0 [.ref 56, iv (n : Int), .retAddr 0, .retAddr 0] [] (mkH B s0 l0) (MTm t n vs tn ta cn ct fx (whR t n res) B s0 l0) := by
  have hfx := hM.2.2.2.1
  have h6 : fx ≤ 60000 := by have := hM.2.2.2.2.1; have := hM.2.1; omega
  have z0 : ∀ j, j ≠ 0 → zz (zu s0 56 0 0) 56 j = zz s0 56 j := fun j hj => zz_ne _ _ _ _ _ _ (fun q => hj q.2)
  have zk : ∀ k, k ≠ 56 → zu s0 56 0 0 k = s0 k := fun k hk => zu_ne _ _ _ _ _ hk
  refine w143_0 hB (by omega) _ s0 l0 ⟨⟨by omega, by omega⟩, fun h => absurd h (by omega), fun _ => ⟨fun _ => ?_, fun h => absurd h (by omega)⟩⟩
  refine a_W.imp (m_begin hB n fx hn (zu s0 56 0 0) l0 ((z0 17 (by decide)).trans hfx) h6) ?_
  rintro _ ⟨s4, rfl, hbg⟩
  refine ⟨s4, l0, rfl, ?_⟩
  have hC : MC t n vs 0 0 s4 l0 := hbg.mc hn (fun j hj => ⟨(zz_of (zk 57 (by decide)) j).trans (hb j hj).1, (hb j hj).2⟩) (hV.fr (z0 5 (by decide)) rfl)
  have f5 : ∀ j, j ≠ 51 → j ≠ 2 → zz (zu (zu s4 56 51 0) 56 2 0) 56 j = zz s4 56 j := fun j h1 h2 => by rw [zz_ne _ _ _ _ _ _ (fun q => h2 q.2), zz_ne _ _ _ _ _ _ (fun q => h1 q.2)]
  have fk : ∀ k, k ≠ 56 → zu (zu s4 56 51 0) 56 2 0 k = s4 k := fun k hk => by rw [zu_ne _ _ _ _ _ hk, zu_ne _ _ _ _ _ hk]
  have hC5 : MC t n vs 0 0 (zu (zu s4 56 51 0) 56 2 0) l0 := by
    obtain ⟨c1, c2, c3, c4, c5, c6, c7, c8, c9⟩ := hC
    exact ⟨⟨(f5 24 (by decide) (by decide)).trans c1.1, c1.2.1, fun j hj => ⟨(zz_of (fk 57 (by decide)) j).trans (c1.2.2 j hj).1, (c1.2.2 j hj).2⟩⟩, (f5 22 (by decide) (by decide)).trans c2, (f5 23 (by decide) (by decide)).trans c3, (f5 31 (by decide) (by decide)).trans c4, (f5 26 (by decide) (by decide)).trans c5, (f5 25 (by decide) (by decide)).trans c6, c7.fr (f5 5 (by decide) (by decide)) rfl, fun j hj => absurd hj (Nat.not_lt_zero _), c9⟩
  obtain ⟨b1, b2, b3, b4, b5, b6, b7, b8, b9, b10, b11, b12, b13, b14, b15⟩ := hbg
  have hR5 : FrTr fx s0 (zu (zu s4 56 51 0) 56 2 0) l0 l0 := by
    refine ⟨fun k h1 h2 _ => (fk k h1).trans ((b1 k h1 h2).trans (zk k h1)), fun j hj => ?_, ⟨?_, zz_same _ _ _ (by decide), (f5 16 (by decide) (by decide)).trans b14⟩, fun j hj => (zz_of (fk 67 (by decide)) j).trans (b2 j hj), fun _ _ _ => rfl⟩
    · have hj2 : j ∉ [16, 22, 23, 24, 25, 26, 31, 32, 33, 41, 48] ∧ j ≠ 51 ∧ j ≠ 2 ∧ j ≠ 0 := by
        simp only [List.mem_cons, List.not_mem_nil, or_false] at hj ⊢
        omega
      rw [f5 j hj2.2.1 hj2.2.2.1, b15 j hj2.1, z0 j hj2.2.2.2]
    · rw [f5 0 (by decide) (by decide), b15 0 (by decide)]; exact zz_same _ _ _ (by decide)
  have hS5 : MS 0 0 0 0 0 (zu (zu s4 56 51 0) 56 2 0) := ⟨(f5 41 (by decide) (by decide)).trans b11, (f5 33 (by decide) (by decide)).trans b12, (f5 32 (by decide) (by decide)).trans b10, (f5 48 (by decide) (by decide)).trans b13, by rw [zz_ne _ _ _ _ _ _ (by omega)]; exact zz_same _ _ _ (by decide)⟩
  generalize (zu (zu s4 56 51 0) 56 2 0) = s5 at *
  have hAt : MAt t n vs 0 s5 l0 := ⟨Or.inl hC5, fun j hj => absurd hj (Nat.not_lt_zero _)⟩
  refine a_W.imp ((m_terms hB hcap N).1 (d - 1) 0 0 0 0 0 0 0 s5 l0 res (by omega) (by decide) hres (by decide) hAt hS5 (by decide) (by decide) (by decide) (by decide)) ?_
  rintro _ ⟨s6, l6, p, rfl, f6, hp30, hcase⟩
  have hR6 := hR5.p f6.1
  refine ⟨_, s6, l6, rfl, ?_⟩
  rcases hcase with ⟨T, j, Q2, W2, rfl, hA6, hS6, ⟨q1, q2, q3, q4⟩, hph, hlg⟩ | ⟨f, j, rfl, hF⟩
  rotate_left
  · refine a_W.imp (m_need_f hB (by omega) hF 0 (by decide)) ?_
    rintro _ rfl
    have g2 := hF.2.1
    have g3 := hF.2.2.1
    exact ⟨s6, l6, rfl, fun _ => m_tmF hB (by omega) _ _ hR6 hT hM hFx rfl hF, fun c => absurd c (by omega)⟩
  have hTR := ptm_R t n N 0 0 [] noT 0 _ (by decide) (by decide) (I0D t n 0 0 0 (Or.inl rfl)) hres
  obtain ⟨-, j6, -, jf, ⟨hok, hht⟩, -, -⟩ := hTR
  have j6 : j ≤ 6000 := j6
  have hws : wsT T + 0 ≤ j + 0 := ptm_S t n N 0 0 [] noT 0 T j (by decide) hres
  have hn0 := m_need hB (d := d - 1) (by omega) hcap j 0 (by decide) hA6
  rw [show kM 0 = 0 by decide] at hn0
  refine a_W.imp hn0 ?_
  rintro _ ⟨s9, l9, rfl, ⟨c1, c2, hC9, s8, f8, e9⟩ | ⟨c1, c2, hF, f8⟩ | ⟨c1, hF, f8⟩⟩
  rotate_left
  · have g2 := hF.2.1
    have g3 := hF.2.2.1
    refine ⟨s9, l9, rfl, fun _ => m_tmF hB (by omega) _ _ (hR6.m f8) hT hM hFx ?_ hF, fun c => absurd c (by omega)⟩
    show (if kdT t n j = 0 then _ else _) = _
    rw [if_neg c2]
  · exact absurd (jf (by decide)) c1
  have hR9 : FrTr fx s0 s9 l0 l9 := by rw [e9]; exact (hR6.m f8).now _
  have w9 : ∀ c i, c ≠ 56 → c ≠ 71 → c ≠ 72 → c ≠ 73 → zz s9 c i = zz s6 c i := fun c i h1 h2 h3 h4 => by rw [e9, zz_ne _ _ _ _ _ _ (by omega)]; exact zz_of (f8.1 c h1 h2 h3 h4) i
  have ph9 : PH s9 (vT t n vs) W2 Q2 T (p : Int) := PH.keep (fun c i h1 h2 _ => w9 c i (by omega) (by omega) (by omega) (by omega)) (fun c h1 h2 i _ => w9 c i (by omega) (by omega) (by omega) (by omega)) (Nat.le_refl _) (Nat.le_refl _) T _ hph
  have lg9 : LgJ 0 W2 s9 (lgA T) := hlg.keep (fun c h1 h2 i _ => w9 c i (by omega) (by omega) (by omega) (by omega))
  have e33 : zz s9 56 33 = (W2 : Nat) := by rw [e9, zz_ne _ _ _ _ _ _ (by omega), f8.2.1 33 (by decide)]; exact hS6.2.1
  obtain ⟨rF, r0, r2, rT, rM, rFx⟩ := hR9.fin (FrZ.rf s9) hT hM hFx
  have d22 := hC9.2.1
  have d23 := hC9.2.2.1
  have e72 : zz s9 72 0 = (stT t n 0 : Nat) := (hC9.2.2.2.2.2.2.2.1 0 (by omega)).2.2.1
  have hl := hT.2.1
  have key := m_tz hB (d := d) (by omega) hcn hcp hct (by omega) hCt h2a hta hv (T := T) (j := j) (W := W2) (Q := Q2) (p := p) j6 hok (by omega) (by omega) (by omega) (by omega) hp30 (n : Int) ph9 lg9 e33 d22 rM rT (fun i hi => hC9.2.2.2.2.2.2.2.1 i hi) rFx hf0 hR9.2.2.1.2.2 hR9.2.2.2.1
  have wR : whR t n (.inr (T, j)) = .inr (T, j) := if_pos c2
  have out : ∀ q, MTz t n vs tn ta cn ct fx T B s9 l9 q → MTm t n vs tn ta cn ct fx (whR t n (.inr (T, j))) B s0 l0 q := fun q h => by
    obtain ⟨s2, fz, h⟩ := h
    obtain ⟨t1, t2⟩ := hR9.fin fz hT hM hFx
    refine ⟨s2, l9, t1, t2, Or.inr ⟨T, j, wR, hC9.2.2.2.2.2.2.1.fr (fz.2.1 5 (by decide)) rfl, ?_⟩⟩
    rcases h with ⟨fv, a1, a2, a3, a4, a5, a6⟩ | ⟨a1, R0, a2, a3, a4, a5, a6⟩
    · exact Or.inl ⟨fv, a1, a2, a3, a4, a5.trans e72, hR9.kp a6⟩
    · exact Or.inr ⟨a1, R0, a2, a3, a4, a5.trans d23, a6⟩
  refine ⟨s9, l9, rfl, fun c => absurd d22 c, fun _ => ⟨key.1, fun c => a_W.imp (key.2.1 c) out, fun c => ⟨fun c2 => a_W.imp ((key.2.2 c).1 c2) out, fun c2 => a_W.imp ((key.2.2 c).2 c2) out⟩⟩⟩
end
