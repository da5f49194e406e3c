/-! THE REFERENCE'S CALL term: what it comes to -/
theorem lgA_num : ∀ v, ¬ lgA (numK v) := by
  intro v
  induction v with
  | zero => exact fun h => h
  | succ v ih => exact fun h => h.elim (fun h => h) ih
theorem lgA_lf (t : Nat → Int) (n : Nat) (cn : List (List Int)) (q : Nat × Nat) (env : List (List Int)) : ¬ lgA (lfK t n cn q env) := by
  unfold lfK sgR cnK
  split
  · split
    · exact fun h => h
    · split <;> exact fun h => h
  · split
    · split
      · exact fun h => h
      · split <;> exact fun h => h
    · exact lgA_num _
theorem lgA_rsv (t : Nat → Int) (n : Nat) (cn : List (List Int)) : ∀ (T : aT) (env : List (List Int)), lgA (rsv t n cn T env) ↔ lgA T := by
  intro T
  induction T with
  | leaf q => intro env; exact ⟨fun h => absurd h (lgA_lf t n cn q env), fun h => absurd h (fun h => h)⟩
  | branch m a b iha ihb =>
    intro env
    by_cases h0 : m = 0
    · subst h0
      show (lgA (rsv t n cn a env) ∨ lgA (rsv t n cn b env)) ↔ (lgA a ∨ lgA b)
      rw [iha, ihb]
    · by_cases h2 : m = 2
      · subst h2
        show (lgA (rsv t n cn a env) ∨ _) ↔ (lgA a ∨ _)
        rw [iha]
      · have e : rsv t n cn (.branch m a b) env = .branch 1 a (rsv t n cn b (nmK t n (m / 4) :: env)) := (if_neg h0).trans (if_neg h2)
        rw [e, lgA_b, lgA_b, if_neg h0, if_neg h2, if_neg (by decide), if_neg (by decide), ihb]
theorem PH.lg {s : aZ} {v : Nat → Int} {W Q : Nat} : ∀ (T : aT) (p : Int), PH s v W Q T p → lgA T → ∃ j, j < W ∧ (40 < zz s 80 j ∨ 12 < zz s 81 j) := by
  have ty : ∀ (b : aT) (w : Int), WI s v b false 0 W w → (40 < tyW b ∨ 12 < tyH b) → ∃ j, j < W ∧ (40 < zz s 80 j ∨ 12 < zz s 81 j) := fun b w h g => by
    obtain ⟨w80, w81⟩ := h.wide
    have hr := h.rng
    exact ⟨w.toNat, by omega, by rw [w80, w81]; omega⟩
  intro T
  induction T with
  | leaf q => intro p _ h; exact absurd h (fun h => h)
  | branch m a b iha ihb =>
    intro p hp hl
    obtain ⟨-, -, -, h4⟩ := hp
    rw [lgA_b] at hl
    rcases h4 with ⟨m0, -, ga, gb⟩ | ⟨m1, -, -, gb, gt⟩ | ⟨m2, -, ga, gt⟩
    · rw [if_pos m0] at hl
      exact hl.elim (iha _ ga) (ihb _ gb)
    · rw [if_neg (by omega), if_neg (by omega)] at hl
      rcases hl with hl | hl
      · rcases gt with ⟨e, -⟩ | gt
        · rw [e] at hl
          rcases hl with c | c
          · exact absurd c (by decide)
          · exact absurd c (by decide)
        · exact ty _ _ gt hl
      · exact ihb _ gb hl
    · rw [if_neg (by omega), if_pos m2] at hl
      exact hl.elim (iha _ ga) (ty _ _ gt)
section
variable {t : Nat → Int} {n : Nat} {vs tn : List (List Int)} {ta : List Int} {cn : List (List Int)} {ct : List aT} {fx : Nat} {B : aH}
theorem m_nm {s : aZ} {l : aZL} {j : Nat} (h : ∀ i, i < j → MTk t n vs i s l) (hj : j ≤ 6001) : MNm t n j l := fun i hi => by
  obtain ⟨i1, h0, k1⟩ := hi
  have hl := h i i1
  have hk := kd_rng h0
  have hs : stT t n i < n := by omega
  obtain ⟨i6, hF⟩ := ft0 h0 hs
  have hk0 : tkK t n (stT t n i) = 1 := by unfold kdT at k1; rw [if_pos hs] at k1; exact k1
  have hz := tkK1 hk0
  obtain ⟨v1, v2, v3, v4⟩ := nmW_ok hs hF hz
  have hg0 : (nmW t n (stT t n i)).getD 0 0 = t (stT t n i) := by
    have : (nmW t n (stT t n i)).getD 0 0 = t (stT t n i + 0) := by unfold nmW; exact seg_get _ _ _ _ (by rw [nmW, seg_len] at v4; exact v4)
    exact this
  refine ⟨by omega, v1, hl.2.2.2.2.2 hs hz, ?_, fun e => ?_⟩
  · show wdN (nmW t n (stT t n i)) = nmW t n (stT t n i)
    unfold wdN
    rw [hg0, if_pos hz]
  · have e : nmW t n (stT t n i) = [] := e
    rw [e] at v4
    exact absurd v4 (by decide)
/-- the term is shown -/
def ShM (s : aZ) (ss : List Int) (rs : List (List Int)) : Prop := zz s 56 18 = (ss.length : Nat) ∧ (∀ j, j < ss.length → zz s 68 j = ss.getD j 0) ∧ RwF 69 70 s rs 0 0
def KpS (s s2 : aZ) : Prop := s2 68 = s 68 ∧ s2 69 = s 69 ∧ s2 70 = s 70 ∧ zz s2 56 18 = zz s 56 18
theorem KpS.tr {s1 s2 s3 : aZ} (a : KpS s1 s2) (b : KpS s2 s3) : KpS s1 s3 := ⟨b.1.trans a.1, b.2.1.trans a.2.1, b.2.2.1.trans a.2.2.1, b.2.2.2.trans a.2.2.2⟩
/-- what follows the reading may touch -/
def FrZ (fx : Nat) (s s2 : aZ) : Prop := (∀ c, c ≠ 56 → (c < 64 ∨ (70 < c ∧ c < 92) ∨ 104 < c) → s2 c = s c) ∧ (∀ j, j ∉ [16, 18, 22, 23, 58, 59, 62, 69] → zz s2 56 j = zz s 56 j) ∧ ∀ c, 64 ≤ c → c ≤ 66 → ∀ j, j < fx → zz s2 c j = zz s c j
theorem FrZ.tr {s1 s2 s3 : aZ} (a : FrZ fx s1 s2) (b : FrZ fx s2 s3) : FrZ fx s1 s3 := ⟨fun c h1 h2 => (b.1 c h1 h2).trans (a.1 c h1 h2), fun j h => (b.2.1 j h).trans (a.2.1 j h), fun c h1 h2 j hj => (b.2.2 c h1 h2 j hj).trans (a.2.2 c h1 h2 j hj)⟩
theorem FrZ.rf (s : aZ) : FrZ fx s s := ⟨fun _ _ _ => rfl, fun _ _ => rfl, fun _ _ _ _ _ => rfl⟩
theorem FrZ.z (s : aZ) (j : Nat) (x : Int) (hj : j ∈ [16, 18, 22, 23, 58, 59, 62, 69]) (h18 : j ≠ 18) : FrZ fx s (zu s 56 j x) ∧ KpS s (zu s 56 j x) := ⟨⟨fun c h1 _ => zu_ne _ _ _ _ _ h1, fun i hi => zz_ne _ _ _ _ _ _ (fun q => hi (by rw [q.2]; exact hj)), fun c h1 h2 i _ => zz_ne _ _ _ _ _ _ (by omega)⟩, ⟨zu_ne _ _ _ _ _ (by decide), zu_ne _ _ _ _ _ (by decide), zu_ne _ _ _ _ _ (by decide), zz_ne _ _ _ _ _ _ (by omega)⟩⟩
theorem MFn.z {k : Nat} {s s2 : aZ} (f : MFn k s s2) : FrZ fx s s2 ∧ KpS s s2 := ⟨⟨fun c h1 h2 => f.1 c h1 (by omega), fun j _ => f.2.1 j, fun c h1 h2 j _ => zz_of (f.1 c (by omega) (by omega)) j⟩, ⟨f.1 68 (by decide) (by decide), f.1 69 (by decide) (by decide), f.1 70 (by decide) (by decide), f.2.1 18⟩⟩
theorem FrMk.z {m k : Nat} {s s2 : aZ} (f : FrMk fx m k s s2) : FrZ fx s s2 ∧ KpS s s2 := ⟨⟨fun c h1 h2 => f.1 c h1 (by omega) (by omega), fun j hj => f.2.1 j (fun q => hj (by rw [q]; decide)) (fun q => hj (by rw [q]; decide)) (fun q => hj (by rw [q]; decide)) (fun q => hj (by rw [q]; decide)) (fun q => hj (by rw [q]; decide)), f.2.2.1⟩, ⟨f.1 68 (by decide) (by decide) (by decide), f.1 69 (by decide) (by decide) (by decide), f.1 70 (by decide) (by decide) (by decide), f.2.1 18 (by decide) (by decide) (by decide) (by decide) (by decide)⟩⟩
theorem FrWa.z {s s2 : aZ} (f : FrWa s s2) : FrZ fx s s2 ∧ KpS s s2 := ⟨⟨fun c h1 h2 => f.1 c h1 (by omega), fun j hj => f.2 j (fun q => hj (by rw [q]; decide)) (fun q => hj (by rw [q]; decide)), fun c h1 h2 j _ => zz_of (f.1 c (by omega) (by omega)) j⟩, ⟨f.1 68 (by decide) (by decide), f.1 69 (by decide) (by decide), f.1 70 (by decide) (by decide), f.2 18 (by decide) (by decide)⟩⟩
/-- behind the reading: what the call comes to -/
def MTz (t : Nat → Int) (n : Nat) (vs tn : List (List Int)) (ta : List Int) (cn : List (List Int)) (ct : List aT) (fx : Nat) (T : aT) (B : aH) (s : aZ) (l : aZL) (q : aR) : Prop := ∃ s2, FrZ fx s s2 ∧ ((∃ fv, fv ≠ 0 ∧ Vd t n vs tn ta ct T (rsv t n cn T []) fv ∧ q = (.inl (some (iv (-1))), mkH B s2 l) ∧ zz s2 56 22 = fv ∧ zz s2 56 23 = zz s 72 0 ∧ KpS s s2) ∨ (Vd t n vs tn ta ct T (rsv t n cn T []) 0 ∧ ∃ R0, prR t n vs tn ct (rsv t n cn T []) R0 ∧ q = (.inl (some (iv (tmW T : Int))), mkH B s2 l) ∧ zz s2 56 22 = 0 ∧ zz s2 56 23 = zz s 56 23 ∧ ShM s2 (syK (rsv t n cn T [])) (wrL R0 []).1))
/-- behind a fault -/
theorem m_t139f (hB : a_Can B) {d : Nat} (hd : 1 ≤ d) (x1 x2 x3 : Int) (s : aZ) (l : aZL) {Q : aR → Prop} (h22 : 0 < zz s 56 22) (h : Q (.inl (some (iv (-1))), mkH B s l)) : a_W d 143 139 [.ref 56, iv x1, iv x2, iv x3] [] (mkH B s l) Q := w143_139 hB (by omega) _ _ _ s l ⟨fun _ => w143_150 hB (by omega) _ _ _ s l ⟨fun c => absurd c (by omega), fun _ => h⟩, fun c => absurd c (by omega)⟩
theorem m_t121f (hB : a_Can B) {d : Nat} (hd : 1 ≤ d) (x1 x2 x3 : Int) (s : aZ) (l : aZL) {Q : aR → Prop} (h22 : 0 < zz s 56 22) (h : Q (.inl (some (iv (-1))), mkH B (zu s 56 62 0) l)) : a_W d 143 121 [.ref 56, iv x1, iv x2, iv x3] [] (mkH B s l) Q := w143_121 hB (by omega) _ _ _ s l ⟨fun _ => m_t139f hB hd _ _ _ _ l (by rw [zz_ne _ _ _ _ _ _ (by omega)]; exact h22) h, fun c => absurd c (by omega)⟩
theorem m_t90f (hB : a_Can B) {d : Nat} (hd : 1 ≤ d) (x1 x2 x3 : Int) (s : aZ) (l : aZL) {Q : aR → Prop} (h22 : 0 < zz s 56 22) (h : Q (.inl (some (iv (-1))), mkH B (zu (zu s 56 59 0) 56 62 0) l)) : a_W d 143 90 [.ref 56, iv x1, iv x2, iv x3] [] (mkH B s l) Q := w143_90 hB (by omega) _ _ _ s l ⟨fun _ => m_t121f hB hd _ _ _ _ l (by rw [zz_ne _ _ _ _ _ _ (by omega)]; exact h22) h, fun c => absurd c (by omega)⟩
theorem m_t62f (hB : a_Can B) {d : Nat} (hd : 1 ≤ d) (x1 x2 : Int) (s : aZ) (l : aZL) {Q : aR → Prop} (h22 : 0 < zz s 56 22) (h : Q (.inl (some (iv (-1))), mkH B (zu (zu s 56 59 0) 56 62 0) l)) : a_W d 143 62 [.ref 56, iv x1, iv x2, .retAddr 0] [] (mkH B s l) Q := by
  have e := fun x3 => m_t90f hB hd x1 x2 x3 s l h22 h
  exact w143_62 hB _ _ s l (w143_64 hB (by omega) _ _ _ s l ⟨by decide, fun _ => e 0, fun _ => ⟨fun _ => e 0, fun c => absurd c (by omega)⟩⟩)
/-- behind the reading of a whole term -/
theorem m_tz (hB : a_Can B) {d : Nat} (hd : 300 ≤ d) (hcn : CnO cn) (hcp : CnP cn) (hct : CtO ct) (hN : tn.length ≤ 40) (hCt : ∀ c, c < cn.length → wfC tn.length ta (ct.getD c cNo) ∧ 0 < (pre (ct.getD c cNo)).length ∧ (pre (ct.getD c cNo)).length ≤ 40) (h2a : ta.getD 2 0 = 2) (hta : ∀ i, ta.getD i 0 ≤ 2) (hv : ∀ i, 0 ≤ vT t n vs i ∧ vT t n vs i ≤ 20000) {T : aT} {j W Q p : Nat} (hj : j ≤ 6000) (hok : tmOk t n j T) (hht : aHt T ≤ tmH T + 40) (hws : wsT T ≤ j) (hQ : Q ≤ 30100) (hW : W ≤ 12100) (hp30 : p < 30100) (x1 : Int) {s : aZ} {l : aZL} (hph : PH s (vT t n vs) W Q T (p : Int)) (hlg : LgJ 0 W s (lgA T)) (h33 : zz s 56 33 = (W : Nat)) (h22 : zz s 56 22 = 0) (hM : MCo cn ct fx s l) (hT : MTy tn ta s l) (hTk : ∀ i, i < j + 1 → MTk t n vs i s l) (hFx : MFx ta fx s) (hf0 : 0 < fx) (h16 : zz s 56 16 = (fx : Nat)) (h67 : ∀ i, i < fx → zz s 67 i = -1) : ((0 ≤ (p : Int) ∧ (p : Int) < 30100) ∧ ((500 < (zz s 86 (p : Int).toNat) → a_W d 143 50 [.ref 56, iv x1, iv (p : Int), .retAddr 0] [] (mkH B s l) (MTz t n vs tn ta cn ct fx T B s l)) ∧ ((zz s 86 (p : Int).toNat) ≤ 500 → (((zz s 87 (p : Int).toNat) ≤ 50 → a_W d 143 62 [.ref 56, iv x1, iv (p : Int), .retAddr 0] [] (mkH B s l) (MTz t n vs tn ta cn ct fx T B s l)) ∧ (50 < (zz s 87 (p : Int).toNat) → a_W d 143 50 [.ref 56, iv x1, iv (p : Int), .retAddr 0] [] (mkH B s l) (MTz t n vs tn ta cn ct fx T B s l)))))) := by
  obtain ⟨-, e86, e87⟩ := hph.top
  rw [natc] at e86 e87
  have r72 := inR_zz s 72 0
  -- large
  have dz : ∀ f : Int, inR f → FrZ fx s (zu (zu (zu (zu s 56 22 f) 56 23 (zz s 72 0)) 56 59 0) 56 62 0) ∧ KpS s (zu (zu (zu (zu s 56 22 f) 56 23 (zz s 72 0)) 56 59 0) 56 62 0) ∧ zz (zu (zu (zu (zu s 56 22 f) 56 23 (zz s 72 0)) 56 59 0) 56 62 0) 56 22 = f ∧ zz (zu (zu (zu (zu s 56 22 f) 56 23 (zz s 72 0)) 56 59 0) 56 62 0) 56 23 = zz s 72 0 := fun f hf => by
    obtain ⟨a1, a2⟩ := FrZ.z (fx := fx) s 22 f (by decide) (by decide)
    obtain ⟨b1, b2⟩ := FrZ.z (fx := fx) (zu s 56 22 f) 23 (zz s 72 0) (by decide) (by decide)
    obtain ⟨c1, c2⟩ := FrZ.z (fx := fx) (zu (zu s 56 22 f) 56 23 (zz s 72 0)) 59 0 (by decide) (by decide)
    obtain ⟨d1, d2⟩ := FrZ.z (fx := fx) (zu (zu (zu s 56 22 f) 56 23 (zz s 72 0)) 56 59 0) 62 0 (by decide) (by decide)
    refine ⟨((a1.tr b1).tr c1).tr d1, ((a2.tr b2).tr c2).tr d2, ?_, ?_⟩
    · rw [zz_ne _ _ _ _ _ _ (by omega), zz_ne _ _ _ _ _ _ (by omega), zz_ne _ _ _ _ _ _ (by omega)]; exact zz_same _ _ _ hf
    · rw [zz_ne _ _ _ _ _ _ (by omega), zz_ne _ _ _ _ _ _ (by omega)]; exact zz_same _ _ _ r72
  have big : lgW T (rsv t n cn T []) → MTz t n vs tn ta cn ct fx T B s l (.inl (some (iv (-1))), mkH B (zu (zu (zu (zu s 56 22 8) 56 23 (zz s 72 0)) 56 59 0) 56 62 0) l) := fun hl => by
    obtain ⟨a1, a2, a3, a4⟩ := dz 8 (by decide)
    exact ⟨_, a1, Or.inl ⟨8, by decide, Or.inl ⟨hl, rfl⟩, rfl, a3, a4, a2⟩⟩
  have at50 : lgW T (rsv t n cn T []) → a_W d 143 50 [.ref 56, iv x1, iv (p : Int), .retAddr 0] [] (mkH B s l) (MTz t n vs tn ta cn ct fx T B s l) := fun hl => by
    refine w143_50 hB (by omega) _ _ s l (a_W.imp (m_die hB 8 _ s l h22) ?_)
    rintro _ rfl
    refine ⟨_, l, rfl, m_t62f hB (by omega) _ _ _ l ?_ (big hl)⟩
    rw [zz_ne _ _ _ _ _ _ (by omega), zz_same _ _ _ (by decide)]
    decide
  refine ⟨⟨by omega, by omega⟩, fun c => at50 (Or.inl ?_), fun c1 => ⟨fun c2 => ?_, fun c2 => at50 (Or.inr (Or.inl ?_))⟩⟩
  · rw [natc, e86] at c; omega
  rotate_left
  · rw [natc, e87] at c2; omega
  rw [natc, e86] at c1
  rw [natc, e87] at c2
  have hw5 : tmW T ≤ 500 := by omega
  have hh5 : tmH T ≤ 50 := by omega
  refine w143_62 hB _ _ s l (m_meas143 hB (by omega) l x1 (p : Int) hW h33 h22 (fun hno k => ?_) (fun hyes k => ?_) W 0 (by omega) (fun i hi => absurd hi (Nat.not_lt_zero _)))
  rotate_left
  · obtain ⟨i, h1, h2⟩ := hyes
    refine m_t90f hB (by omega) _ _ _ _ l ?_ (big (Or.inr (Or.inr ((lgA_rsv t n cn T []).mpr (hlg i (Nat.zero_le _) h1 h2)))))
    rw [zz_ne _ _ _ _ _ _ (by omega), zz_same _ _ _ (by decide)]
    decide
  have nlg : ¬ lgA T := fun c => by
    obtain ⟨i, h1, h2⟩ := PH.lg T _ hph c
    exact hno i h1 h2
  have nl : ¬ lgW T (rsv t n cn T []) := by
    rintro (q | q | q)
    · omega
    · omega
    · exact nlg ((lgA_rsv t n cn T []).mp q)
  have hNm : MNm t n j l := m_nm (fun i hi => hTk i (by omega)) (by omega)
  -- names
  obtain ⟨fa1, fa2⟩ := FrZ.z (fx := fx) s 59 0 (by decide) (by decide)
  have a0 : ∀ c i, (c ≠ 56 ∨ i ≠ 59) → zz (zu s 56 59 0) c i = zz s c i := fun c i h => zz_ne _ _ _ _ _ _ (by omega)
  have a59 : zz (zu s 56 59 0) 56 59 = ((0 : Nat) : Int) := zz_same _ _ _ (by decide)
  have aph : PH (zu s 56 59 0) (vT t n vs) W Q T (p : Int) := PH.keep (fun c i h1 h2 _ => a0 c i (Or.inl (by omega))) (fun c h1 h2 i _ => a0 c i (Or.inl (by omega))) (Nat.le_refl _) (Nat.le_refl _) T _ hph
  have aM : MCo cn ct fx (zu s 56 59 0) l := hM.z56 59 _ (by decide) (by decide)
  refine w143_90 hB (by omega) _ _ _ s l ⟨fun c => absurd h22 c, fun _ => a_W.imp (m_named hB hcn hcp l hNm hQ T hok (d - 1) [] 0 (p : Int) _ (by omega) (by omega) aph aM rfl a59) ?_⟩
  rintro _ ⟨s2, rfl, f2⟩
  have f02 : FrZ fx s s2 ∧ KpS s s2 := ⟨fa1.tr f2.z.1, fa2.tr (f2.z (fx := fx)).2⟩
  have z22 : zz s2 56 22 = 0 := (f2.2.1 22).trans ((a0 56 22 (Or.inr (by decide))).trans h22)
  have z23 : zz s2 56 23 = zz s 56 23 := (f2.2.1 23).trans (a0 56 23 (Or.inr (by decide)))
  have z72 : zz s2 72 0 = zz s 72 0 := zz_of (f02.1.1 72 (by decide) (by decide)) 0
  refine ⟨_, s2, l, rfl, by split <;> decide, fun cn0 => ?_, fun cn0 => ?_⟩
  rotate_left
  · have hu : unK (rsv t n cn T []) = true := by
      cases e : unK (rsv t n cn T ([].map (nmK t n))) with
      | true => exact e
      | false => rw [e] at cn0; exact absurd cn0 (by decide)
    refine a_W.imp (m_die hB 4 _ s2 l z22) ?_
    rintro _ rfl
    refine ⟨_, l, rfl, m_t121f hB (by omega) _ _ _ _ l ?_ ?_⟩
    · rw [zz_ne _ _ _ _ _ _ (by omega), zz_same _ _ _ (by decide)]; decide
    · obtain ⟨b1, b2⟩ := FrZ.z (fx := fx) s2 22 4 (by decide) (by decide)
      obtain ⟨c1, c2⟩ := FrZ.z (fx := fx) (zu s2 56 22 4) 23 (zz s2 72 0) (by decide) (by decide)
      obtain ⟨d1, d2⟩ := FrZ.z (fx := fx) (zu (zu s2 56 22 4) 56 23 (zz s2 72 0)) 62 0 (by decide) (by decide)
      refine ⟨_, ((f02.1.tr b1).tr c1).tr d1, Or.inl ⟨4, by decide, Or.inr ⟨nl, Or.inl ⟨hu, rfl⟩⟩, rfl, ?_, ?_, ((f02.2.tr b2).tr c2).tr d2⟩⟩
      · rw [zz_ne _ _ _ _ _ _ (by omega), zz_ne _ _ _ _ _ _ (by omega)]; exact zz_same _ _ _ (by decide)
      · rw [zz_ne _ _ _ _ _ _ (by omega), zz_same _ _ _ (inR_zz _ _ _), z72]
  have hu : unK (rsv t n cn T []) = false := by
    cases e : unK (rsv t n cn T ([].map (nmK t n))) with
    | false => exact e
    | true => rw [e] at cn0; exact absurd rfl cn0
  -- made
  have b0 : ∀ c i, (c ≠ 56 ∨ i ≠ 62) → zz (zu s2 56 62 0) c i = zz s2 c i := fun c i h => zz_ne _ _ _ _ _ _ (by omega)
  have b62 : zz (zu s2 56 62 0) 56 62 = ((0 : Nat) : Int) := zz_same _ _ _ (by decide)
  have bk : ∀ c, c ≠ 56 → (zu s2 56 62 0) c = s2 c := fun c h => zu_ne _ _ _ _ _ h
  have fb := FrZ.z (fx := fx) s2 62 0 (by decide) (by decide)
  have f03 : FrZ fx s (zu s2 56 62 0) ∧ KpS s (zu s2 56 62 0) := ⟨f02.1.tr fb.1, f02.2.tr fb.2⟩
  refine w143_121 hB (by omega) _ _ _ s2 l ⟨fun c => absurd z22 c, fun _ => ?_⟩
  have s2k : ∀ c, c ≠ 56 → c ≠ 96 → s2 c = s c := fun c h1 h2 => (f2.1 c h1 h2).trans (zu_ne _ _ _ _ _ h1)
  have z3 : ∀ i, i ≠ 59 → i ≠ 62 → zz (zu s2 56 62 0) 56 i = zz s 56 i := fun i h1 h2 => (b0 56 i (Or.inr h2)).trans ((f2.2.1 i).trans (a0 56 i (Or.inr h1)))
  have z359 : zz (zu s2 56 62 0) 56 59 = ((0 : Nat) : Int) := (b0 56 59 (Or.inr (by decide))).trans ((f2.2.1 59).trans a59)
  generalize zu s2 56 62 0 = s3 at *
  have k3 : ∀ c, c ≠ 56 → c ≠ 96 → s3 c = s c := fun c h1 h2 => (bk c h1).trans (s2k c h1 h2)
  have q16 : zz s3 56 16 = (fx : Nat) := (z3 16 (by decide) (by decide)).trans h16
  have q67 : ∀ i, i < fx → zz s3 67 i = -1 := fun i hi => (zz_of (k3 67 (by decide) (by decide)) i).trans (h67 i hi)
  have qF : MFx ta fx s3 := fun i hi => (hFx i hi).k (fun c h1 h2 => zz_of (k3 c (by omega) (by omega)) i)
  obtain ⟨hE3, v0, hv0⟩ := PEm.fix qF q16 q67
  have ph3 : PH s3 (vT t n vs) W Q T (p : Int) := PH.keep (fun c i h1 h2 _ => zz_of (k3 c (by omega) (by omega)) i) (fun c h1 h2 i _ => zz_of (k3 c (by omega) (by omega)) i) (Nat.le_refl _) (Nat.le_refl _) T _ hph
  have hI3 : MkI t n vs tn ta cn ct fx j [] [] 0 fx 0 s3 l := by
    refine ⟨⟨hM.fr (z3 3 (by decide) (by decide)) (z3 17 (by decide) (by decide)) (k3 59 (by decide) (by decide)) (k3 60 (by decide) (by decide)) (fun c h1 h2 i _ => zz_of (k3 c (by omega) (by omega)) i) rfl, hT.fr (z3 4 (by decide) (by decide)) (k3 62 (by decide) (by decide)) rfl, fun i hi => ?_⟩, rfl, rfl, fun r hr => absurd hr List.not_mem_nil, z359, q16, b62, Nat.le_refl _, hf0⟩
    obtain ⟨t1, t2, t3, t4, t5, t6⟩ := hTk i (by have := hi.1; omega)
    exact ⟨t1, (zz_of (k3 71 (by decide) (by decide)) i).trans t2, (zz_of (k3 72 (by decide) (by decide)) i).trans t3, fun q => (zz_of (k3 73 (by decide) (by decide)) i).trans (t4 q), fun q => (zz_of (k3 73 (by decide) (by decide)) i).trans (t5 q), t6⟩
  have hfx := hM.2.2.2.2.1
  have hcl := hM.2.1
  have hmc := mcT_le T
  have hcs := cs_le T
  refine a_W.imp (m_make hB hcn hcp hct hN hCt h2a hta hv l hNm hQ hW T hok nlg (d - 1) [] [] 0 fx 0 (p : Int) s3 (by omega) (by omega) (by omega) (by omega) ph3 hI3 ⟨_, _, hE3⟩ ((z3 22 (by decide) (by decide)).trans h22) hu) ?_
  rintro _ ⟨s4, r, P, m2, rfl, f4, ⟨p1, p2, p3⟩, ⟨p4, p5, p6⟩, hR⟩
  refine ⟨_, s4, l, rfl, ?_⟩
  have hK : rsv t n cn T ([].map (nmK t n)) = rsv t n cn T [] := rfl
  rw [hK] at p6 hR
  have wK := (rsv_w t n j cn T [] hok).1
  have f04 : FrZ fx s s4 ∧ KpS s s4 := ⟨f03.1.tr f4.z.1, f03.2.tr f4.z.2⟩
  have z72' : zz s3 72 0 = zz s 72 0 := zz_of (k3 72 (by decide) (by decide)) 0
  have nosol : (∀ v R, Vl unM fx (vwM s3) v → ¬ tyd t n vs tn ct (rsv t n cn T []) ([].map v) R) → ∀ R, ¬ tyd t n vs tn ct (rsv t n cn T []) [] R := fun h R hT => h v0 R hv0 hT
  rcases hR with ⟨y1, y2, y3⟩ | ⟨y1, y2, y3, y4, L, y5, y6, y7, y8, y9⟩
  · refine m_t139f hB (by omega) _ _ _ s4 l (by rw [y1]; decide) ⟨s4, f04.1, Or.inl ⟨3, by decide, Or.inr ⟨nl, Or.inr ⟨hu, Or.inl ⟨?_, rfl⟩⟩⟩, rfl, y1, y2.trans z72', f04.2⟩⟩
    rcases y3 with y3 | y3
    · exact Or.inl y3
    · exact Or.inr (nosol y3)
  obtain ⟨⟨rt, u, hE4⟩, sou, com⟩ := y9
  have q17 : zz s4 56 17 = (fx : Nat) := (f4.2.1 17 (by decide) (by decide) (by decide) (by decide) (by decide)).trans ((z3 17 (by decide) (by decide)).trans hM.2.2.2.1)
  have h99 : ∀ i, i < m2 → zz s4 99 i = (L.getD i 0 : Nat) := fun i hi => by
    have := (y5.2 i (by omega)).2
    rw [Nat.zero_add] at this
    exact this
  refine w143_139 hB (by omega) _ _ _ s4 l ⟨fun c => absurd y1 c, fun _ => a_W.imp (m_wall hB (by omega) (by omega) l s4 y1 ⟨hE4.1, hE4.2.1, hE4.2.2.1⟩ p4 q17 p2 (by omega) (by omega) h99 y8) ?_⟩
  rintro _ ⟨s5, rfl, f5, hw⟩
  refine ⟨s5, l, rfl, ?_⟩
  have f05 : FrZ fx s s5 ∧ KpS s s5 := ⟨f04.1.tr f5.z.1, f04.2.tr (f5.z (fx := fx)).2⟩
  have z72'' : zz s4 72 0 = zz s 72 0 := zz_of (f04.1.1 72 (by decide) (by decide)) 0
  rcases hw with ⟨w1, w2, w3⟩ | ⟨w1, w2, w3, w4⟩
  · refine w143_150 hB (by omega) _ _ _ s5 l ⟨fun c => absurd c (by rw [w1]; decide), fun _ => ⟨s5, f05.1, Or.inl ⟨3, by decide, Or.inr ⟨nl, Or.inr ⟨hu, Or.inl ⟨Or.inr (fun R hT => ?_), rfl⟩⟩⟩, rfl, w1, w2.trans z72'', f05.2⟩⟩⟩
    obtain ⟨v2, g1, -, -⟩ := com v0 R hv0 hT
    exact w3 v2 g1
  -- the pool is solved
  have eq5 := f5.eqP
  have hE5 : PEm (arT ta) P s5 rt u := hE4.vw eq5 (f5.2 16 (by decide) (by decide))
  have hF5 : MFx ta fx s5 := fun i hi => (hFx i hi).k (fun c h1 h2 => f05.1.2.2 c h1 h2 i hi)
  have k35 : ∀ c, 64 ≤ c → c ≤ 66 → ∀ i, i < fx → zz s5 c i = zz s3 c i := fun c h1 h2 i hi => (zz_of (f5.1 c (by omega) (by omega)) i).trans (f4.2.2.1 c h1 h2 i hi)
  have hv05 : ∀ k, k < fx → v0 k = .branch (enc (zz s5 64 k)) (ptT v0 (zz s5 65 k)) (ptT v0 (zz s5 66 k)) := fun k hk => by
    rw [k35 64 (by decide) (by decide) k hk, k35 65 (by decide) (by decide) k hk, k35 66 (by decide) (by decide) k hk]
    exact (hv0 k hk).2 (qF k hk).2.2.1.2.2
  have hac := m_acp hE5 (by omega) p2 hF5 w1 w2 hv05
  have rk : ∀ k ∈ L, rkM s5 v0 (rt k) = (zz s5 102 (rt k)).toNat := fun k hk => if_pos (w3 k hk)
  have szh : ∀ k ∈ L, zz s5 102 (rt k) = (hgT (tK s5 rt (rkM s5 v0) k) : Nat) ∧ zz s5 101 (rt k) = min ((szT (tK s5 rt (rkM s5 v0) k) : Nat) : Int) 100000 := fun k hk => by
    have hkP := y8 k hk
    have e := m_szh hE5 w1 (rkM s5 v0 (rt k) + 1) (k : Int) (by omega) (by omega) (fun _ => by rw [natc]; exact ⟨w3 k hk, by rw [rk k hk]; omega⟩)
    have ep : prt rt (k : Int) = ((rt k : Nat) : Int) := by unfold prt; rw [if_neg (by omega), natc]
    have e1 : hvM s5 (prt rt (k : Int)) = zz s5 102 (rt k) := by rw [ep]; unfold hvM; rw [if_neg (by omega), natc]
    have e2 : wvM s5 (prt rt (k : Int)) = zz s5 101 (rt k) := by rw [ep]; unfold wvM; rw [if_neg (by omega), natc]
    rw [e1, e2] at e
    unfold tK tM
    rw [natc]
    exact e
  have hpr : prR t n vs tn ct (rsv t n cn T []) (L.map (tK s5 rt (rkM s5 v0))) := by
    intro X
    constructor
    · rintro ⟨f, rfl⟩
      have hVl := Vl.of hE5.2.1 hE5.2.2.1.1 hE5.2.2.2 hac f
      rw [eq5.vw] at hVl
      obtain ⟨-, g2⟩ := sou _ hVl
      rw [List.map_map]
      have : (L.map fun k => sbT f (rsT unM (vwM s4) rt (rkM s5 v0 (rt k) + 1) (k : Int))) = L.map (sbT f ∘ tK s5 rt (rkM s5 v0)) := List.map_congr_left (fun k _ => by
        show _ = sbT f (tK s5 rt (rkM s5 v0) k)
        unfold tK tM
        rw [natc, eq5.vw])
      rw [← this]
      exact g2
    · intro hT
      obtain ⟨v2, g1, -, g3⟩ := com v0 X hv0 hT
      have hVl : Vl unM P (vwM s5) v2 := by rw [eq5.vw]; exact g1
      refine ⟨v2, ?_⟩
      rw [← g3, List.map_map]
      refine List.map_congr_left (fun k hk => ?_)
      have := Vl.inst hE5.2.1 hE5.2.2.1.1 hac hVl (rkM s5 v0 (rt k) + 1) (k : Int) (by omega) (by have := y8 k hk; omega) (fun _ => by rw [natc]; exact Nat.lt_succ_self _)
      rw [ptT_p _ _ (by omega), natc] at this
      show v2 k = sbT v2 (tK s5 rt (rkM s5 v0) k)
      rw [this]
      unfold tK tM
      rw [natc]
  rcases w4 with ⟨⟨k, hk, hbig⟩, g22, g23⟩ | ⟨hsm, g22, g23⟩
  · refine w143_150 hB (by omega) _ _ _ s5 l ⟨fun c => absurd c (by rw [g22]; decide), fun _ => ⟨s5, f05.1, Or.inl ⟨8, by decide, Or.inr ⟨nl, Or.inr ⟨hu, Or.inr ⟨y3, _, hpr, Or.inl ⟨⟨_, List.mem_map.mpr ⟨k, hk, rfl⟩, ?_⟩, rfl⟩⟩⟩⟩, rfl, g22, g23.trans z72'', f05.2⟩⟩⟩
    obtain ⟨e1, e2⟩ := szh k hk
    rw [e1, e2] at hbig
    omega
  · have hL : ∀ k ∈ L, k < P ∧ szT (tK s5 rt (rkM s5 v0) k) ≤ 40 := fun k hk => by
      obtain ⟨e1, e2⟩ := szh k hk
      have := hsm k hk
      rw [e1, e2] at this
      exact ⟨y8 k hk, by omega⟩
    have nlR : ¬ lgR (L.map (tK s5 rt (rkM s5 v0))) := by
      rintro ⟨τ, hτ, q⟩
      obtain ⟨k, hk, rfl⟩ := List.mem_map.mp hτ
      obtain ⟨e1, e2⟩ := szh k hk
      have := hsm k hk
      rw [e1, e2] at this
      omega
    have g62 : zz s5 56 62 = (m2 : Nat) := (f5.2 62 (by decide) (by decide)).trans p4
    refine w143_150 hB (by omega) _ _ _ s5 l ⟨fun _ => a_W.imp (m_keep hB (by omega) l (by omega) (by omega) hE5 hac g62 (by omega) (fun i hi => (zz_of (f5.1 99 (by decide) (by decide)) i).trans (h99 i hi)) hL) ?_, fun c => absurd c (by rw [g22]; decide)⟩
    rintro _ ⟨s6, rfl, r1, r2, r3, r4, r5⟩
    refine ⟨s6, l, rfl, s6, f05.1.tr ⟨fun c h1 h2 => r4 c h1 (by omega) (by omega) (by omega), fun i hi => r5 i (fun q => hi (by rw [q]; decide)) (fun q => hi (by rw [q]; decide)), fun c h1 h2 i _ => zz_of (r4 c (by omega) (by omega) (by omega) (by omega)) i⟩, Or.inr ⟨Or.inr ⟨nl, Or.inr ⟨hu, Or.inr ⟨y3, _, hpr, Or.inr ⟨nlR, rfl⟩⟩⟩⟩, _, hpr, ?_, ?_, ?_, ?_⟩⟩
    · rw [r1, show m2 = tmW T by omega]
    · exact (r5 22 (by decide) (by decide)).trans g22
    · exact (r5 23 (by decide) (by decide)).trans (g23.trans (y2.trans (z3 23 (by decide) (by decide))))
    · have hlen : (syK (rsv t n cn T [])).length = m2 := by rw [y5.1]; omega
      refine ⟨by rw [r1, hlen], fun i hi => ?_, r3⟩
      rw [r2 i (by omega), zz_of (f5.1 98 (by decide) (by decide))]
      have := (y5.2 i (by omega)).1
      rw [Nat.zero_add] at this
      exact this
end
