/-! THE REFERENCE DECLARES A CONSTANT: the whole call -/
theorem opN_wd (k : Int) (h1 : 19 ≤ k) (h2 : k ≤ 22) : wdN (opN k) = [] := by
  rcases (show k = 19 ∨ k = 20 ∨ k = 21 ∨ k = 22 by omega) with rfl | rfl | rfl | rfl <;> rfl
theorem opN_inj (k k2 : Int) (h1 : 19 ≤ k) (h2 : k ≤ 22) (h3 : 19 ≤ k2) (h4 : k2 ≤ 22) (h : opN k = opN k2) : k = k2 := by
  rcases (show k = 19 ∨ k = 20 ∨ k = 21 ∨ k = 22 by omega) with rfl | rfl | rfl | rfl <;> rcases (show k2 = 19 ∨ k2 = 20 ∨ k2 = 21 ∨ k2 = 22 by omega) with rfl | rfl | rfl | rfl <;> first | rfl | exact absurd h (by decide)
section
variable {d : Nat} {B : aH} {t : Nat → Int} {n : Nat} {vs tn : List (List Int)} {ta : List Int} {cn : List (List Int)} {ct : List aT} {fx : Nat} {s0 : aZ} {l0 : aZL}
theorem m_co69f (hB : a_Can B) (hd : 8 ≤ d) (x1 x2 : Int) (hx : inR x2) (s : aZ) (l : aZL) (hK : MKc tn ta cn ct fx s0 s l0 l) (f : Int) (j : Nat) (hR : coR t n tn ta cn = .inl (f, j)) (hF : MF t n f (stT t n j) (nsT t n vs (coN t n)) s l) : a_W d 202 69 [.ref 56, iv x1, iv x2, .retAddr 0, .retAddr 0, .retAddr 0] [] (mkH B s l) (MCR t n vs tn ta cn ct fx B s0 l0) := by
  have f2 := hF.2.1
  have f3 := hF.2.2.1
  refine w202_69 hB (by omega) x1 x2 s l (a_W.imp (m_need_f hB (by omega) hF 7 (by decide)) ?_)
  rintro _ rfl
  refine ⟨s, l, rfl, fun h => absurd h (by omega), fun _ => a_W.imp (m_need_f hB (by omega) hF 0 (by decide)) ?_⟩
  rintro _ rfl
  exact ⟨s, l, rfl, m_coNf (d := d) hB (by omega) x1 x2 0 hx s l hK f j hR hF _ _⟩
/-- the colon is behind: the type, the end, the table -/
theorem m_co69 (hB : a_Can B) (hd : 200 ≤ d) (hcap : MCap t n vs) (hv : ∀ i, 0 ≤ vT t n vs i ∧ vT t n vs i ≤ 20000) (hta : ∀ i, ta.getD i 0 ≤ 2) (h2a : ta.getD 2 0 = 2) (h17 : zz s0 56 17 ≤ fx) (x1 : Int) (k0 : Nat) (s : aZ) (l : aZL) (hK : MKc tn ta cn ct fx s0 s l0 l) (hC : MC t n vs 1 1 s l) (h0 : ftT t n 0 = 0) (hk0 : kdT t n 0 = k0) (hz : z122 (kdT t n 0) ≠ 0) (h16 : zz s 56 16 = (fx : Nat)) (h32 : zz s 56 32 = 0) (h33 : zz s 56 33 = 0) : a_W d 202 69 [.ref 56, iv x1, iv (kM (k0 : Int)), .retAddr 0, .retAddr 0, .retAddr 0] [] (mkH B s l) (MCR t n vs tn ta cn ct fx B s0 l0) := by
  have hkr := kd_rng h0
  have hkk : kdT t n 0 = 1 ∨ (19 ≤ kdT t n 0 ∧ kdT t n 0 ≤ 22) := by
    unfold z122 at hz
    omega
  have hs : stT t n 0 < n := by omega
  obtain ⟨i6, hF0⟩ := ft0 h0 hs
  have ekd : kdT t n 0 = tkK t n (stT t n 0) := by unfold kdT; rw [if_pos hs]
  have kmr : inR (kM (k0 : Int)) := inR_kM ⟨by omega, by omega⟩
  have eP : coP t n = pLk t n 1 (if kdT t n 1 = 6 then pBd (pty t n 30000 0 0 2) (fun T j => if kdT t n j = 0 then some (.inr (T, j)) else some (.inl (2, j))) else some (.inl (2, 1))) := by
    unfold coP
    rw [if_pos hz]
    unfold pLk
    rw [if_neg (fun q => q h0)]
  have rOf : ∀ f j, coP t n = some (.inl (f, j)) → coR t n tn ta cn = .inl (f, j) := fun f j h => by unfold coR; rw [h]
  have nOf : ∀ f j, coP t n = some (.inl (f, j)) → coN t n = j + 1 := fun f j h => by unfold coN; rw [h]
  have hA1 : MAt t n vs 1 s l := ⟨Or.inl hC, fun j hj => by
    have e : j = 0 := by omega
    rw [e]
    exact hs⟩
  have hn := m_need hB (d := d - 1) (by omega) hcap 1 6 (by decide) hA1
  rw [show kM 6 = 7 by decide] at hn
  refine w202_69 hB (by omega) x1 _ s l (a_W.imp hn ?_)
  rintro _ ⟨s2, l2, rfl, hcase⟩
  refine ⟨s2, l2, rfl, ?_⟩
  rcases hcase with ⟨c1, c2, hC2, s1, f1, e2⟩ | ⟨c1, c2, hF, f1⟩ | ⟨c1, hF, f1⟩
  rotate_left
  · have hP : coP t n = some (.inl (2, 1)) := by rw [eP]; unfold pLk; rw [if_neg (fun q => q c1), if_neg c2]
    rw [← nOf 2 1 hP] at hF
    have f2 := hF.2.1
    have f3 := hF.2.2.1
    refine ⟨fun h => absurd h (by omega), fun _ => a_W.imp (m_need_f hB (by omega) hF 0 (by decide)) ?_⟩
    rintro _ rfl
    exact ⟨s2, l2, rfl, m_coNf (d := d) hB (by omega) x1 _ 0 kmr s2 l2 (hK.w f1.w) 2 1 (rOf 2 1 hP) hF _ _⟩
  · have hP : coP t n = some (.inl (ftT t n 1, 1)) := by rw [eP]; unfold pLk; rw [if_pos c1]
    rw [← nOf _ 1 hP] at hF
    have f2 := hF.2.1
    have f3 := hF.2.2.1
    refine ⟨fun h => absurd h (by omega), fun _ => a_W.imp (m_need_f hB (by omega) hF 0 (by decide)) ?_⟩
    rintro _ rfl
    exact ⟨s2, l2, rfl, m_coNf (d := d) hB (by omega) x1 _ 0 kmr s2 l2 (hK.w f1.w) _ 1 (rOf _ 1 hP) hF _ _⟩
  have eP2 : coP t n = pBd (pty t n 30000 0 0 2) (fun T j => if kdT t n j = 0 then some (.inr (T, j)) else some (.inl (2, j))) := by
    rw [eP]
    unfold pLk
    rw [if_neg (fun q => q c1), if_pos c2]
  have fw2 : FrW s s2 l l2 := by rw [e2]; exact f1.w.tr (FrW.now _ _ _)
  have hK2 := hK.w fw2
  have hs1 : stT t n 1 < n := by have := kd_rng c1; omega
  have z2 : ∀ q, q ≠ 31 → q ∉ [5, 22, 23, 25, 26] → zz s2 56 q = zz s 56 q := fun q h1 h2 => by rw [e2, zz_ne _ _ _ _ _ _ (by omega)]; exact f1.2.1 q h2
  have hA2 : MAt t n vs 2 s2 l2 := ⟨Or.inl hC2, fun j hj => by
    rcases (show j = 0 ∨ j = 1 by omega) with e | e
    · rw [e]; exact hs
    · rw [e]; exact hs1⟩
  obtain ⟨res, hres⟩ := pty_fuel t n 30000 0 0 2 (by decide) (fun c => absurd c (by decide)) (by decide) (by decide)
  have c22 := hC2.2.1
  refine ⟨fun _ => ?_, fun h => absurd h (by omega)⟩
  refine a_W.imp ((m_types hB hcap 30000).1 (d - 1) 0 0 2 0 s2 l2 res (by omega) (by decide) hres hA2 ((z2 32 (by decide) (by decide)).trans h32) ((z2 33 (by decide) (by decide)).trans h33) (by decide)) ?_
  rintro _ ⟨s4, l4, w, rfl, f4, g4, w4, ⟨T, j, W2, b1, hA4, q32, q33, q34, hT4⟩ | ⟨f, j, b1, hF⟩⟩
  rotate_left
  · subst b1
    have hP : coP t n = some (.inl (f, j)) := by rw [eP2, hres]; rfl
    rw [← nOf f j hP] at hF
    refine ⟨_, s4, l4, rfl, a_W.imp (m_need_f hB (by omega) hF 0 (by decide)) ?_⟩
    rintro _ rfl
    exact ⟨s4, l4, rfl, m_coNf (d := d) hB (by omega) x1 _ _ kmr s4 l4 (hK2.w f4) f j (rOf f j hP) hF _ _⟩
  subst b1
  have hj0 := pty0_ft t n 30000 0 2 T j hres
  have j6 := hA4.le
  have hK4 := hK2.w f4
  have hnm := pty_nm t n 30000 0 0 2 T j (by decide) (fun c => absurd c (by decide)) (by decide) hres
  have eP3 : coP t n = if kdT t n j = 0 then some (.inr (T, j)) else some (.inl (2, j)) := by rw [eP2, hres]; rfl
  have hn0 := m_need hB (d := d - 1) (by omega) hcap j 0 (by decide) hA4
  rw [show kM 0 = 0 by decide] at hn0
  refine ⟨_, s4, l4, rfl, a_W.imp hn0 ?_⟩
  rintro _ ⟨s7, l7, rfl, ⟨d1, d2, hC7, s6, f6, e7⟩ | ⟨d1, d2, hF, f6⟩ | ⟨d1, hF, f6⟩⟩
  rotate_left
  · rw [if_neg d2] at eP3
    rw [← nOf 2 j eP3] at hF
    exact ⟨s7, l7, rfl, m_coNf (d := d) hB (by omega) x1 _ _ kmr s7 l7 (hK4.w f6.w) 2 j (rOf 2 j eP3) hF _ _⟩
  · exact absurd hj0 d1
  rw [if_pos d2] at eP3
  have fw7 : FrW s4 s7 l4 l7 := by rw [e7]; exact f6.w.tr (FrW.now _ _ _)
  have hK7 := hK4.w fw7
  have hT7 : WI s7 (vT t n vs) T false 0 W2 w := (WI.keep T).1 _ _ _ hT4 (fun k q g1 g2 _ _ _ => by rw [e7, zz_ne _ _ _ _ _ _ (by omega)]; exact zz_of (f6.1 k (by omega) (by omega) (by omega) (by omega)) q)
  have z7 : zz s7 56 16 = (fx : Nat) := (fw7.2.1 16 (by decide)).trans ((f4.2.1 16 (by decide)).trans ((fw2.2.1 16 (by decide)).trans h16))
  have c227 := hC7.2.1
  have hN : coN t n = j + 1 := by unfold coN; rw [eP3]
  have eR : 0 ≤ fd cn (nmW t n (stT t n 0)) cn.length → coR t n tn ta cn = .inl (4, 0) := fun h => by
    unfold coR
    rw [eP3]
    show (if _ then _ else _) = _
    rw [if_pos h]
  have hk07 := hC7.2.2.2.2.2.2.2.1 0 (by omega)
  have e72 : zz s7 72 0 = (stT t n 0 : Nat) := hk07.2.2.1
  have r72 := inR_zz s7 72 0
  have fr := fd_rng cn (nmW t n (stT t n 0))
  have cl := hK7.2.2.2.2.2.1
  -- the name is there
  have nam : ∀ x4 : Int, 0 ≤ fd cn (nmW t n (stT t n 0)) cn.length → a_W d 202 153 [.ref 56, iv x1, iv (kM (k0 : Int)), iv (w : Int), iv x4, .retAddr 0] [] (mkH B s7 l7) (MCR t n vs tn ta cn ct fx B s0 l0) := by
    intro x4 h
    refine w202_153 hB (by omega) _ _ _ _ s7 l7 (a_W.imp (m_die hB 4 _ s7 l7 c227) ?_)
    rintro _ rfl
    refine ⟨_, l7, rfl, ?_⟩
    rw [e72]
    have r72' := r72
    rw [e72] at r72'
    have hF := hC7.die (by omega) 4 _ (by decide) r72'
    rw [← hN] at hF
    exact m_co164f hB (by omega) _ _ _ _ _ l7 (hK7.w (FrW.die _ _ _ _)) 4 0 (eR h) hF
  have hnm7 : nmOk (fun q => q < j + 1 ∧ ftT t n q = 0 ∧ kdT t n q = 1) T := nmOk.imp (fun q hq => ⟨by omega, hq.2⟩) T hnm
  refine ⟨s7, l7, rfl, kmr, fun kne => ⟨fun h => absurd c227 h, fun _ => ?_⟩, fun keq => ⟨fun h => absurd c227 h, fun _ => ?_⟩⟩
  · -- a sign
    have hk1 : 19 ≤ kdT t n 0 ∧ kdT t n 0 ≤ 22 := by
      rcases hkk with e | e
      · exact absurd (by rw [← hk0, e]; rfl) kne
      · exact e
    have km : kM (k0 : Int) = ((k0 + 6 : Nat) : Int) := by unfold kM; omega
    obtain ⟨o1, o2, o3⟩ := tk_op hs (by rw [← ekd]; omega)
    rw [← ekd, hk0] at o1
    have e60 : zz s7 60 (k0 + 6) = fd cn (nmW t n (stT t n 0)) cn.length := by
      rw [o1]
      exact hK7.2.2.2.2.2.2.2.2.2.2.2.1 k0 (by omega) (by omega)
    refine ⟨by rw [km]; exact ⟨by omega, by omega⟩, fun g => ?_, fun g => ?_⟩
    · rw [km, natc, e60] at g
      refine m_co164 hB (by omega) hv hta h2a h17 x1 0 k0 w W2 s7 l7 T j hK7 (Or.inl ⟨rfl, by omega, by omega, o1⟩) (fun _ => by rw [o1]; exact opN_wd _ (by omega) (by omega)) g eP3 hnm7 hT7 (by omega) hC7 (by omega) z7 (fun k h1 h2 h3 => ⟨rfl, ?_⟩)
      rw [o1] at h3
      exact opN_inj _ _ h1 h2 (by omega) (by omega) h3
    · rw [km, natc, e60] at g
      exact nam 0 (by omega)
  · -- a word
    have hk1 : kdT t n 0 = 1 := by
      rcases hkk with e | e
      · exact e
      · exfalso
        rw [← hk0] at keq
        unfold kM at keq
        omega
    have hkT : tkK t n (stT t n 0) = 1 := by rw [← ekd]; exact hk1
    have hz31 := tkK1 hkT
    obtain ⟨v1, v2, v3, v4⟩ := nmW_ok hs hF0 hz31
    have hln : LN l7 74 0 (nmW t n (stT t n 0)) := hk07.2.2.2.2.2 hs hz31
    have hg0 : (nmW t n (stT t n 0)).getD 0 0 = t (stT t n 0) := by
      have : (nmW t n (stT t n 0)).getD 0 0 = t (stT t n 0 + 0) := by unfold nmW; exact seg_get _ _ _ _ (by rw [nmW, seg_len] at v4; exact v4)
      exact this
    have hwd : wdN (nmW t n (stT t n 0)) = nmW t n (stT t n 0) := by
      unfold wdN
      rw [hg0, if_pos hz31]
    have hne : nmW t n (stT t n 0) ≠ [] := fun e => by rw [e] at v4; exact absurd v4 (by decide)
    obtain ⟨a1, a2, a3, a4, a5, a6, a7, a8, a9, a11, a10⟩ := hK7.2.2.2.2
    have hffd := ffd_co a6 (nmW t n (stT t n 0)) hne hwd
    have hml : (cn.map wdN).length = cn.length := List.length_map _
    have hvv : ∀ i, i < (cn.map wdN).length → VN ((cn.map wdN).getD i []) ∧ LN l7 58 i ((cn.map wdN).getD i []) := fun i hi => by
      rw [map_wd]
      exact a7 i (by omega)
    rw [a1, ← hml]
    refine a_W.imp (m_find58 hB (by omega) s7 l7 (cn.map wdN) (by omega) hvv 0 (by decide) _ v1 hln) ?_
    rintro _ rfl
    rw [hffd]
    refine ⟨_, s7, l7, rfl, ⟨by omega, by omega⟩, fun g => ?_, fun g => nam 1 (by omega)⟩
    refine m_co164 hB (by omega) hv hta h2a h17 x1 1 k0 w W2 s7 l7 T j hK7 (Or.inr ⟨rfl, hwd, v1, hln⟩) (fun c => absurd c (by decide)) g eP3 hnm7 hT7 (by omega) hC7 (by omega) z7 (fun k h1 h2 h3 => ?_)
    exfalso
    have h4 := opN_wd k h1 h2
    rw [h3, hwd] at h4
    exact hne h4
theorem m_const (hB : a_Can B) (hd : 210 ≤ d) (hcap : MCap t n vs) (hv : ∀ i, 0 ≤ vT t n vs i ∧ vT t n vs i ≤ 20000) (hta : ∀ i, ta.getD i 0 ≤ 2) (h2a : ta.getD 2 0 = 2) (hn : n ≤ 8000) (hfed : (n : Int) ≤ zz s0 56 2) (hb : ∀ j, j < n → zz s0 57 j = t j ∧ 0 ≤ t j ∧ t j < 256) (hV : MV vs s0 l0) (hT : MTy tn ta s0 l0) (hM : MCo cn ct fx s0 l0) : a_W d 202 0 [.ref 56, iv (n : Int), .retAddr 0, .retAddr 0, .retAddr 0, .retAddr 0] [] (mkH B s0 l0) (MCR t n vs tn ta cn ct fx B s0 l0) := by
  have hfx := hM.2.2.2.1
  have h6 : fx ≤ 60000 := by have := hM.2.2.2.2.1; have := hM.2.1; omega
  have z0 : ∀ j, j ≠ 0 → zz (zu s0 56 0 0) 56 j = zz s0 56 j := fun j hj => zz_ne _ _ _ _ _ _ (fun q => hj q.2)
  have zk : ∀ k, k ≠ 56 → zu s0 56 0 0 k = s0 k := fun k hk => zu_ne _ _ _ _ _ hk
  refine w202_0 hB (by omega) _ s0 l0 ⟨⟨by omega, by omega⟩, fun h => absurd h (by omega), fun _ => ⟨fun _ => ?_, fun h => absurd h (by omega)⟩⟩
  refine a_W.imp (m_begin hB n fx hn (zu s0 56 0 0) l0 ((z0 17 (by decide)).trans hfx) h6) ?_
  rintro _ ⟨s4, rfl, hbg⟩
  refine ⟨s4, l0, rfl, ?_⟩
  have hC : MC t n vs 0 0 s4 l0 := hbg.mc hn (fun j hj => ⟨(zz_of (zk 57 (by decide)) j).trans (hb j hj).1, (hb j hj).2⟩) (hV.fr (z0 5 (by decide)) rfl)
  have f5 : ∀ j, j ≠ 51 → j ≠ 2 → zz (zu (zu s4 56 51 0) 56 2 0) 56 j = zz s4 56 j := fun j h1 h2 => by rw [zz_ne _ _ _ _ _ _ (fun q => h2 q.2), zz_ne _ _ _ _ _ _ (fun q => h1 q.2)]
  have fk : ∀ k, k ≠ 56 → zu (zu s4 56 51 0) 56 2 0 k = s4 k := fun k hk => by rw [zu_ne _ _ _ _ _ hk, zu_ne _ _ _ _ _ hk]
  have hC5 : MC t n vs 0 0 (zu (zu s4 56 51 0) 56 2 0) l0 := by
    obtain ⟨c1, c2, c3, c4, c5, c6, c7, c8, c9⟩ := hC
    exact ⟨⟨(f5 24 (by decide) (by decide)).trans c1.1, c1.2.1, fun j hj => ⟨(zz_of (fk 57 (by decide)) j).trans (c1.2.2 j hj).1, (c1.2.2 j hj).2⟩⟩, (f5 22 (by decide) (by decide)).trans c2, (f5 23 (by decide) (by decide)).trans c3, (f5 31 (by decide) (by decide)).trans c4, (f5 26 (by decide) (by decide)).trans c5, (f5 25 (by decide) (by decide)).trans c6, c7.fr (f5 5 (by decide) (by decide)) rfl, fun j hj => absurd hj (Nat.not_lt_zero _), c9⟩
  obtain ⟨b1, b2, b3, b4, b5, b6, b7, b8, b9, b10, b11, b12, b13, b14, b15⟩ := hbg
  have hff : FrK s0 (zu (zu s4 56 51 0) 56 2 0) l0 l0 := by
    refine ⟨fun k h1 h2 h3 h4 h5 h6 h7 h8 => (fk k h1).trans ((b1 k h1 (by omega)).trans (zk k h1)), fun j hj => ?_, fun _ _ _ _ => rfl, fun k h1 h2 j _ => by rw [zz_of (fk k (by omega)), zz_of (b1 k (by omega) (by omega)), zz_of (zk k (by omega))]⟩
    have hj2 : j ∉ [16, 22, 23, 24, 25, 26, 31, 32, 33, 41, 48] ∧ j ≠ 51 ∧ j ≠ 2 ∧ j ≠ 0 := by
      simp only [List.mem_cons, List.not_mem_nil, or_false] at hj ⊢
      omega
    rw [f5 j hj2.2.1 hj2.2.2.1, b15 j hj2.1, z0 j hj2.2.2.2]
  have g0 : zz (zu (zu s4 56 51 0) 56 2 0) 56 0 = 0 := by rw [f5 0 (by decide) (by decide), b15 0 (by decide)]; exact zz_same _ _ _ (by decide)
  have g2 : zz (zu (zu s4 56 51 0) 56 2 0) 56 2 = 0 := zz_same _ _ _ (by decide)
  have hT5 : MTy tn ta (zu (zu s4 56 51 0) 56 2 0) l0 := hT.fr (by rw [f5 4 (by decide) (by decide), b15 4 (by decide), z0 4 (by decide)]) (by rw [fk 62 (by decide), b1 62 (by decide) (by decide), zk 62 (by decide)]) rfl
  have hM5 : MCo cn ct fx (zu (zu s4 56 51 0) 56 2 0) l0 := hM.fr (by rw [f5 3 (by decide) (by decide), b15 3 (by decide), z0 3 (by decide)]) (by rw [f5 17 (by decide) (by decide), b15 17 (by decide), z0 17 (by decide)]) (by rw [fk 59 (by decide), b1 59 (by decide) (by decide), zk 59 (by decide)]) (by rw [fk 60 (by decide), b1 60 (by decide) (by decide), zk 60 (by decide)]) (fun k h1 h2 j _ => by rw [zz_of (fk k (by omega)), zz_of (b1 k (by omega) (by omega)), zz_of (zk k (by omega))]) rfl
  have hK5 : MKc tn ta cn ct fx s0 (zu (zu s4 56 51 0) 56 2 0) l0 l0 := ⟨hff, g0, g2, hT5, hM5⟩
  have e16 := (f5 16 (by decide) (by decide)).trans b14
  have e32 := (f5 32 (by decide) (by decide)).trans b10
  have e33 := (f5 33 (by decide) (by decide)).trans b12
  clear hff g0 g2 hT5 hM5
  generalize (zu (zu s4 56 51 0) 56 2 0) = s5 at *
  refine a_W.imp (m_look0 hB (by omega) hcap 0 ⟨Or.inl hC5, fun j hj => absurd hj (Nat.not_lt_zero _)⟩) ?_
  rintro _ ⟨s6, l6, f6, ⟨h0, rfl, hC6⟩ | ⟨h0, rfl, hF⟩⟩
  · have hk := kd_rng h0
    obtain ⟨k0, ek0⟩ : ∃ k0 : Nat, kdT t n 0 = k0 := ⟨(kdT t n 0).toNat, by omega⟩
    have hK6 := hK5.w f6.w
    have c4 := hC6.2.2.2.1
    have e72 : zz s6 72 0 = (stT t n 0 : Nat) := (hC6.2.2.2.2.2.2.2.1 0 (by decide)).2.2.1
    have r72 := inR_zz s6 72 0
    rw [ek0]
    -- it may be declared
    have go : z122 (kdT t n 0) ≠ 0 → a_W d 202 45 [.ref 56, iv (n : Int), iv (kM (k0 : Int)), .retAddr 0, .retAddr 0, .retAddr 0] [] (mkH B s6 l6) (MCR t n vs tn ta cn ct fx B s0 l0) := by
      intro hz
      refine w202_45 hB _ _ s6 l6 ?_
      rw [c4, show ((0 : Nat) : Int) + 1 = ((1 : Nat) : Int) by rfl]
      have hC7 := hC6.now (i2 := 1) (by decide)
      have fw := FrW.now s6 l6 ((1 : Nat) : Int)
      exact m_co69 hB (by omega) hcap hv hta h2a (by omega) _ k0 _ l6 (hK6.w fw) hC7 h0 ek0 hz ((fw.2.1 16 (by decide)).trans ((f6.w.2.1 16 (by decide)).trans e16)) (by rw [zz_ne _ _ _ _ _ _ (by omega), f6.2.1 32 (by decide)]; exact e32) (by rw [zz_ne _ _ _ _ _ _ (by omega), f6.2.1 33 (by decide)]; exact e33)
    have kk : ∀ c : Nat, c ≤ 22 → 19 ≤ c → kM (k0 : Int) = ((c + 6 : Nat) : Int) → z122 (kdT t n 0) ≠ 0 := fun c h1 h2 h => by
      rw [ek0]
      unfold kM at h
      unfold z122
      omega
    refine ⟨_, s6, l6, rfl, by rw [← ek0]; exact inR_kM ⟨hk.1, hk.2.1⟩, fun g1 => go ?_, fun g1 => ⟨fun g2 => go (kk 19 (by decide) (by decide) g2), fun g2 => ⟨fun g3 => go (kk 20 (by decide) (by decide) g3), fun g3 => ⟨fun g4 => go (kk 21 (by decide) (by decide) g4), fun g4 => ⟨fun g5 => ?_, fun g5 => go (kk 22 (by decide) (by decide) g5)⟩⟩⟩⟩⟩
    · rw [ek0]
      unfold kM at g1
      unfold z122
      omega
    · have hz : z122 (kdT t n 0) = 0 := by
        rw [ek0]
        unfold kM at g1 g2 g3 g4 g5
        unfold z122
        omega
      have hP : coP t n = some (.inl (2, 0)) := by
        unfold coP pLk
        rw [if_neg (fun q => q h0), if_neg (fun q => q hz)]
      refine a_W.imp (m_die hB 2 _ s6 l6 hC6.2.1) ?_
      rintro _ rfl
      refine ⟨_, l6, rfl, ?_⟩
      rw [e72]
      rw [e72] at r72
      have hF := hC6.die (by decide) 2 _ (by decide) r72
      have hN : coN t n = 0 + 1 := by unfold coN; rw [hP]
      rw [← hN] at hF
      exact m_co69f hB (by omega) _ _ (by rw [← ek0]; exact inR_kM ⟨hk.1, hk.2.1⟩) _ l6 (hK6.w (FrW.die _ _ _ _)) 2 0 (by unfold coR; rw [hP]) hF
  · have hP : coP t n = some (.inl (ftT t n 0, 0)) := if_pos h0
    have hN : coN t n = 0 + 1 := by unfold coN; rw [hP]
    rw [← hN] at hF
    have f2 := hF.2.1
    have f3 := hF.2.2.1
    refine ⟨_, s6, l6, rfl, by decide, fun g => absurd g (by decide), fun _ => ⟨fun g => absurd g (by decide), fun _ => ⟨fun g => absurd g (by decide), fun _ => ⟨fun g => absurd g (by decide), fun _ => ⟨fun _ => a_W.imp (m_die_f hB _ _ s6 l6 (by omega)) ?_, fun g => absurd g (by decide)⟩⟩⟩⟩⟩
    rintro _ rfl
    exact ⟨s6, l6, rfl, m_co69f hB (by omega) _ 0 (by decide) s6 l6 (hK5.w f6.w) _ 0 (by unfold coR; rw [hP]) hF⟩
end
