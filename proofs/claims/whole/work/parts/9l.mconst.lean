/-! THE REFERENCE DECLARES A CONSTANT -/
/-- a name that a word can be, or none -/
def wdN (nm : List Int) : List Int := if z31 (nm.getD 0 0) ≠ 0 then nm else []
theorem map_wd (cn : List (List Int)) : ∀ i, (cn.map wdN).getD i [] = wdN (cn.getD i []) := by
  induction cn with
  | nil => intro i; rfl
  | cons a cn ih =>
    intro i
    cases i with
    | zero => rfl
    | succ i => exact ih i
theorem ffd_co {cn : List (List Int)} (hd : ∀ i j, i < j → j < cn.length → cn.getD i [] ≠ cn.getD j []) (nm : List Int) (h0 : nm ≠ []) (h1 : wdN nm = nm) : ffd (cn.map wdN) nm (cn.map wdN).length 0 = fd cn nm cn.length := by
  have hl : (cn.map wdN).length = cn.length := List.length_map _
  rw [hl]
  have cl : ∀ j, wdN (cn.getD j []) = nm → cn.getD j [] = nm := fun j h => by
    unfold wdN at h
    split at h
    · exact h
    · exact absurd h.symm h0
  rcases ffd_cases (cn.map wdN) nm cn.length 0 with ⟨g1, g2⟩ | ⟨j, g1, g2, g3, g4⟩
  · rw [g1]
    rcases fd_cases cn nm cn.length with ⟨k1, -⟩ | ⟨i, k1, k2, k3⟩
    · exact k1.symm
    · exact absurd (by rw [map_wd, k3, h1]) (g2 i (Nat.zero_le _) (by omega))
  · rw [g3]
    rw [map_wd] at g4
    have g5 := cl j g4
    rcases fd_cases cn nm cn.length with ⟨k1, k2⟩ | ⟨i, k1, k2, k3⟩
    · exact absurd g5 (k2 j (by omega))
    · rw [k2]
      rcases Nat.lt_trichotomy i j with h | h | h
      · exact absurd (k3.trans g5.symm) (hd i j h (by omega))
      · rw [h]
      · exact absurd (g5.trans k3.symm) (hd j i h (by omega))
/-- the reference's table of constants -/
def MCo (cn : List (List Int)) (ct : List aT) (fx : Nat) (s : aZ) (l : aZL) : Prop := zz s 56 3 = (cn.length : Nat) ∧ cn.length ≤ 112 ∧ ct.length = cn.length ∧ zz s 56 17 = (fx : Nat) ∧ fx ≤ 40 * cn.length ∧ (∀ i j, i < j → j < cn.length → cn.getD i [] ≠ cn.getD j []) ∧ (∀ c, c < cn.length → VN (wdN (cn.getD c [])) ∧ LN l 58 c (wdN (cn.getD c []))) ∧ (∀ k : Nat, 19 ≤ k → k ≤ 22 → zz s 60 (k + 6) = fd cn (opN (k : Int)) cn.length) ∧ (zz s 60 20 = 0 ∧ zz s 60 21 = 6 ∧ zz s 60 22 = 5 ∧ zz s 60 23 = 4 ∧ zz s 60 24 = 0) ∧ (∀ c, cn.length ≤ c → c < 112 → LN l 58 c []) ∧ ∀ c, c < cn.length → NI 64 65 66 s 0 fx (ct.getD c cNo) (zz s 59 c)
theorem MCo.fr {cn : List (List Int)} {ct : List aT} {fx : Nat} {s s2 : aZ} {l l2 : aZL} (h : MCo cn ct fx s l) (h3 : zz s2 56 3 = zz s 56 3) (h17 : zz s2 56 17 = zz s 56 17) (h59 : s2 59 = s 59) (h60 : s2 60 = s 60) (hn : ∀ k, 64 ≤ k → k ≤ 66 → ∀ j, j < fx → zz s2 k j = zz s k j) (hl : l2 58 = l 58) : MCo cn ct fx s2 l2 := by
  obtain ⟨a1, a2, a3, a4, a5, a6, a7, a8, a9, a11, a10⟩ := h
  refine ⟨h3.trans a1, a2, a3, h17.trans a4, a5, a6, fun c hc => ⟨(a7 c hc).1, fun q hq => by rw [hl]; exact (a7 c hc).2 q hq⟩, fun k k1 k2 => (zz_of h60 _).trans (a8 k k1 k2), ?_, fun c h1 h2 q hq => by rw [hl]; exact a11 c h1 h2 q hq, fun c hc => ?_⟩
  · rw [zz_of h60, zz_of h60, zz_of h60, zz_of h60, zz_of h60]; exact a9
  · rw [zz_of h59]
    exact NI.keep (fun k j g _ g2 => hn k (by omega) (by omega) j g2) (Nat.le_refl _) (Nat.le_refl _) _ _ (a10 c hc)
/-- what declaring a constant may touch of the reference -/
def FrK (s s2 : aZ) (l l2 : aZL) : Prop := (∀ k, k ≠ 56 → k ≠ 59 → k ≠ 60 → (k < 64 ∨ 67 < k) → k ≠ 71 → k ≠ 72 → k ≠ 73 → (k < 75 ∨ 81 < k) → s2 k = s k) ∧ (∀ j, j ∉ [0, 2, 3, 5, 16, 17, 22, 23, 24, 25, 26, 31, 32, 33, 41, 48, 51] → zz s2 56 j = zz s 56 j) ∧ (∀ k, k ≠ 58 → k ≠ 63 → k ≠ 74 → l2 k = l k) ∧ ∀ k, 64 ≤ k → k ≤ 66 → ∀ j : Nat, (j : Int) < zz s 56 17 → zz s2 k j = zz s k j
theorem FrK.w {s s1 s2 : aZ} {l l1 l2 : aZL} (a : FrK s s1 l l1) (b : FrW s1 s2 l1 l2) : FrK s s2 l l2 := ⟨fun k h1 h2 h3 h4 h5 h6 h7 h8 => (b.1 k h1 h5 h6 h7 h8).trans (a.1 k h1 h2 h3 h4 h5 h6 h7 h8), fun j hj => (b.2.1 j (fun q => hj (by simp only [List.mem_cons, List.not_mem_nil, or_false] at q ⊢; omega))).trans (a.2.1 j hj), fun k h1 h2 h3 => (b.2.2 k h3 h2).trans (a.2.2.1 k h1 h2 h3), fun k h1 h2 j hj => (zz_of (b.1 k (by omega) (by omega) (by omega) (by omega) (by omega)) j).trans (a.2.2.2 k h1 h2 j hj)⟩
theorem FrK.zu {s s1 : aZ} {l l1 : aZL} (a : FrK s s1 l l1) (j : Nat) (v : Int) (hj : j ∈ [0, 2, 3, 5, 16, 17, 22, 23, 24, 25, 26, 31, 32, 33, 41, 48, 51]) : FrK s (zu s1 56 j v) l l1 := ⟨fun k h1 h2 h3 h4 h5 h6 h7 h8 => (zu_ne _ _ _ _ _ h1).trans (a.1 k h1 h2 h3 h4 h5 h6 h7 h8), fun i hi => (zz_ne _ _ _ _ _ _ (fun q => hi (by rw [q.2]; exact hj))).trans (a.2.1 i hi), a.2.2.1, fun k h1 h2 i hi => (zz_ne _ _ _ _ _ _ (by omega)).trans (a.2.2.2 k h1 h2 i hi)⟩
theorem FrK.n {s s1 s2 : aZ} {l l1 : aZL} {Nn : Nat} (a : FrK s s1 l l1) (b : FrN Nn s1 s2) (hN : zz s 56 17 ≤ Nn) : FrK s s2 l l1 := ⟨fun k h1 h2 h3 h4 h5 h6 h7 h8 => (b.1 k h1 h4).trans (a.1 k h1 h2 h3 h4 h5 h6 h7 h8), fun j hj => (b.2.1 j (fun q => hj (by rw [q]; decide)) (fun q => hj (by rw [q]; decide)) (fun q => hj (by rw [q]; decide))).trans (a.2.1 j hj), a.2.2.1, fun k h1 h2 j hj => (b.2.2 k h1 (by omega) j (by omega)).trans (a.2.2.2 k h1 h2 j hj)⟩
theorem MCo.w {cn : List (List Int)} {ct : List aT} {fx : Nat} {s s2 : aZ} {l l2 : aZL} (h : MCo cn ct fx s l) (b : FrW s s2 l l2) : MCo cn ct fx s2 l2 := h.fr (b.2.1 3 (by decide)) (b.2.1 17 (by decide)) (b.1 59 (by decide) (by decide) (by decide) (by decide) (by decide)) (b.1 60 (by decide) (by decide) (by decide) (by decide) (by decide)) (fun k h1 h2 j _ => zz_of (b.1 k (by omega) (by omega) (by omega) (by omega) (by omega)) j) (b.2.2 58 (by decide) (by decide))
theorem MTy.w {tn : List (List Int)} {ta : List Int} {s s2 : aZ} {l l2 : aZL} (h : MTy tn ta s l) (b : FrW s s2 l l2) : MTy tn ta s2 l2 := h.fr (b.2.1 4 (by decide)) (b.1 62 (by decide) (by decide) (by decide) (by decide) (by decide)) (b.2.2 61 (by decide) (by decide))
theorem MCo.z56 {cn : List (List Int)} {ct : List aT} {fx : Nat} {s : aZ} {l : aZL} (h : MCo cn ct fx s l) (j : Nat) (v : Int) (h3 : j ≠ 3) (h17 : j ≠ 17) : MCo cn ct fx (zu s 56 j v) l := h.fr (zz_ne _ _ _ _ _ _ (by omega)) (zz_ne _ _ _ _ _ _ (by omega)) (zu_ne _ _ _ _ _ (by decide)) (zu_ne _ _ _ _ _ (by decide)) (fun k h1 h2 q _ => zz_ne _ _ _ _ _ _ (by omega)) rfl
theorem MTy.z56 {tn : List (List Int)} {ta : List Int} {s : aZ} {l : aZL} (h : MTy tn ta s l) (j : Nat) (v : Int) (h4 : j ≠ 4) : MTy tn ta (zu s 56 j v) l := h.fr (zz_ne _ _ _ _ _ _ (by omega)) (zu_ne _ _ _ _ _ (by decide)) rfl
theorem MV.z56 {vs : List (List Int)} {s : aZ} {l : aZL} (h : MV vs s l) (j : Nat) (v : Int) (h5 : j ≠ 5) : MV vs (zu s 56 j v) l := h.fr (zz_ne _ _ _ _ _ _ (by omega)) rfl
section
variable {d : Nat} {B : aH} {t : Nat → Int} {n : Nat} {vs tn : List (List Int)} {ta : List Int} {cn : List (List Int)} {ct : List aT} {fx : Nat} {s0 : aZ} {l0 : aZL}
/-- what the call comes to -/
def MCR (t : Nat → Int) (n : Nat) (vs tn : List (List Int)) (ta : List Int) (cn : List (List Int)) (ct : List aT) (fx : Nat) (B : aH) (s0 : aZ) (l0 : aZL) (q : aR) : Prop := ∃ s2 l2, FrK s0 s2 l0 l2 ∧ zz s2 56 0 = 0 ∧ zz s2 56 2 = 0 ∧ MV (nsT t n vs (coN t n)) s2 l2 ∧ MTy tn ta s2 l2 ∧ ((∃ f j, coR t n tn ta cn = .inl (f, j) ∧ q = (.inl (some (iv (-1))), mkH B s2 l2) ∧ zz s2 56 22 = f ∧ zz s2 56 23 = stT t n j ∧ MCo cn ct fx s2 l2) ∨ (∃ T fx2, coR t n tn ta cn = .inr T ∧ q = (.inl (some (iv (cn.length : Int))), mkH B s2 l2) ∧ zz s2 56 22 = 0 ∧ zz s2 56 23 = -1 ∧ MCo (cn ++ [nmW t n (stT t n 0)]) (ct ++ [cdT t n vs tn T]) fx2 s2 l2 ∧ ∀ j, fx ≤ j → j < fx2 → okD ta s2 j))
/-- what stands while a constant's text is read -/
def MKc (tn : List (List Int)) (ta : List Int) (cn : List (List Int)) (ct : List aT) (fx : Nat) (s0 s : aZ) (l0 l : aZL) : Prop := FrK s0 s l0 l ∧ zz s 56 0 = 0 ∧ zz s 56 2 = 0 ∧ MTy tn ta s l ∧ MCo cn ct fx s l
theorem MKc.w {s s2 : aZ} {l l2 : aZL} (h : MKc tn ta cn ct fx s0 s l0 l) (b : FrW s s2 l l2) : MKc tn ta cn ct fx s0 s2 l0 l2 := ⟨h.1.w b, (b.2.1 0 (by decide)).trans h.2.1, (b.2.1 2 (by decide)).trans h.2.2.1, h.2.2.2.1.w b, h.2.2.2.2.w b⟩
theorem m_co197f (hB : a_Can B) (hd : 2 ≤ d) (x1 x2 x3 x4 : Int) (s : aZ) (l : aZL) (hK : MKc tn ta cn ct fx s0 s l0 l) (f : Int) (j : Nat) (hR : coR t n tn ta cn = .inl (f, j)) (hF : MF t n f (stT t n j) (nsT t n vs (coN t n)) s l) : a_W d 202 197 [.ref 56, iv x1, iv x2, iv x3, iv x4, .retAddr 0] [] (mkH B s l) (MCR t n vs tn ta cn ct fx B s0 l0) := by
  obtain ⟨f1, f2, f3, f4, f5, f6, f7⟩ := hF
  obtain ⟨k1, k2, k3, k4, k5⟩ := hK
  have z : ∀ q, q ≠ 16 → zz (zu s 56 16 (zz s 56 17)) 56 q = zz s 56 q := fun q hq => zz_ne _ _ _ _ _ _ (by omega)
  exact w202_197 hB (by omega) x1 x2 x3 x4 s l ⟨fun h => absurd h (by omega), fun _ => ⟨_, l, k1.zu 16 _ (by decide), (z 0 (by decide)).trans k2, (z 2 (by decide)).trans k3, f7.z56 16 _ (by decide), k4.z56 16 _ (by decide), Or.inl ⟨f, j, hR, rfl, (z 22 (by decide)).trans f3, (z 23 (by decide)).trans f4, k5.z56 16 _ (by decide) (by decide)⟩⟩⟩
theorem m_co164f (hB : a_Can B) (hd : 2 ≤ d) (x1 x2 x3 x4 : Int) (s : aZ) (l : aZL) (hK : MKc tn ta cn ct fx s0 s l0 l) (f : Int) (j : Nat) (hR : coR t n tn ta cn = .inl (f, j)) (hF : MF t n f (stT t n j) (nsT t n vs (coN t n)) s l) : a_W d 202 164 [.ref 56, iv x1, iv x2, iv x3, iv x4, .retAddr 0] [] (mkH B s l) (MCR t n vs tn ta cn ct fx B s0 l0) := by
  have f2 := hF.2.1
  have f3 := hF.2.2.1
  have e185 : a_W d 202 185 [.ref 56, iv x1, iv x2, iv x3, iv x4, .retAddr 0] [] (mkH B s l) (MCR t n vs tn ta cn ct fx B s0 l0) := w202_185 hB (by omega) x1 x2 x3 x4 s l ⟨fun _ => m_co197f hB hd x1 x2 x3 x4 s l hK f j hR hF, fun h => absurd h (by omega)⟩
  refine w202_164 hB (by omega) x1 x2 x3 x4 s l ⟨fun _ => e185, fun _ => a_W.imp (m_die_f hB _ _ s l (by omega)) ?_⟩
  rintro _ rfl
  exact ⟨s, l, rfl, e185⟩
/-- behind a fault the rest is passed over -/
theorem m_coNf (hB : a_Can B) (hd : 4 ≤ d) (x1 x2 v6 : Int) (hx : inR x2) (s : aZ) (l : aZL) (hK : MKc tn ta cn ct fx s0 s l0 l) (f : Int) (j : Nat) (hR : coR t n tn ta cn = .inl (f, j)) (hF : MF t n f (stT t n j) (nsT t n vs (coN t n)) s l) (R1 R2 : Prop) : inR x2 ∧ ((x2 ≠ 1 → (((zz s 56 22) ≠ 0 → a_W d 202 164 [.ref 56, iv x1, iv x2, iv v6, iv 0, .retAddr 0] [] (mkH B s l) (MCR t n vs tn ta cn ct fx B s0 l0)) ∧ ((zz s 56 22) = 0 → R1))) ∧ (x2 = 1 → (((zz s 56 22) ≠ 0 → a_W d 202 164 [.ref 56, iv x1, iv x2, iv v6, iv 1, .retAddr 0] [] (mkH B s l) (MCR t n vs tn ta cn ct fx B s0 l0)) ∧ ((zz s 56 22) = 0 → R2)))) := by
  have f2 := hF.2.1
  have f3 := hF.2.2.1
  exact ⟨hx, fun _ => ⟨fun _ => m_co164f hB (by omega) _ _ _ _ s l hK f j hR hF, fun h => absurd h (by omega)⟩, fun _ => ⟨fun _ => m_co164f hB (by omega) _ _ _ _ s l hK f j hR hF, fun h => absurd h (by omega)⟩⟩
/-- the type is right so far: large, or its meaning -/
theorem m_co164 (hB : a_Can B) (hd : 30 ≤ d) (hv : ∀ i, 0 ≤ vT t n vs i ∧ vT t n vs i ≤ 20000) (hta : ∀ i, ta.getD i 0 ≤ 2) (h2a : ta.getD 2 0 = 2) (h17 : zz s0 56 17 ≤ fx) (x1 x4 : Int) (k0 : Nat) (w W2 : Nat) (s : aZ) (l : aZL) (T : aT) (j : Nat) (hK : MKc tn ta cn ct fx s0 s l0 l) (hx4 : (x4 = 0 ∧ 19 ≤ k0 ∧ k0 ≤ 22 ∧ nmW t n (stT t n 0) = opN (k0 : Int)) ∨ (x4 = 1 ∧ wdN (nmW t n (stT t n 0)) = nmW t n (stT t n 0) ∧ VN (nmW t n (stT t n 0)) ∧ LN l 74 0 (nmW t n (stT t n 0)))) (hnw : x4 = 0 → wdN (nmW t n (stT t n 0)) = []) (hnf : fd cn (nmW t n (stT t n 0)) cn.length = -1) (hP : coP t n = some (.inr (T, j))) (hnm : nmOk (fun q => q < j + 1 ∧ ftT t n q = 0 ∧ kdT t n q = 1) T) (hWI : WI s (vT t n vs) T false 0 W2 w) (hW2 : W2 ≤ 12100) (hC : MC t n vs (j + 1) (j + 1) s l) (hj : j < 6001) (h16 : zz s 56 16 = (fx : Nat)) (hop : ∀ (k : Int), 19 ≤ k → k ≤ 22 → opN k = nmW t n (stT t n 0) → x4 = 0 ∧ k = k0) : a_W d 202 164 [.ref 56, iv x1, iv (kM (k0 : Int)), iv (w : Int), iv x4, .retAddr 0] [] (mkH B s l) (MCR t n vs tn ta cn ct fx B s0 l0) := by
  have hN : coN t n = j + 1 := by unfold coN; rw [hP]
  have eR : coR t n tn ta cn = if 112 ≤ cn.length ∨ 40 < tyW T ∨ 12 < tyH T then .inl (8, 0) else if tyBad t n tn ta T = true then .inl (3, 0) else .inr T := by
    unfold coR
    rw [hP]
    show (if _ then _ else _) = _
    rw [if_neg (by omega)]
  have hK' := hK
  obtain ⟨k1, k2, k3, k4, k5⟩ := hK
  obtain ⟨a1, a2, a3, a4, a5, a6, a7, a8, a9, a11, a10⟩ := k5
  have hk0 := hC.2.2.2.2.2.2.2.1 0 (by omega)
  have e72 : zz s 72 0 = (stT t n 0 : Nat) := hk0.2.2.1
  have r72 := inR_zz s 72 0
  have c22 := hC.2.1
  have c23 := hC.2.2.1
  have hx4r : inR x4 := by rcases hx4 with ⟨e, -⟩ | ⟨e, -⟩ <;> rw [e] <;> decide
  have kmr : k0 ≤ 22 → inR (kM (k0 : Int)) := fun h => inR_kM ⟨by omega, by omega⟩
  -- large
  have lg : (112 ≤ cn.length ∨ 40 < tyW T ∨ 12 < tyH T) → a_W d 202 197 [.ref 56, iv x1, iv (kM (k0 : Int)), iv (w : Int), iv x4, .retAddr 0] [] (mkH B (zu (zu s 56 22 8) 56 23 (zz s 72 0)) l) (MCR t n vs tn ta cn ct fx B s0 l0) := by
    intro h
    rw [if_pos h] at eR
    rw [e72]
    rw [e72] at r72
    have hF := hC.die (by omega) 8 _ (by decide) r72
    rw [← hN] at hF
    exact m_co197f hB (by omega) _ _ _ _ _ l (hK'.w (FrW.die _ _ _ _)) 8 0 eR hF
  by_cases h112 : cn.length = 112
  · refine w202_164 hB (by omega) _ _ _ _ s l ⟨fun g => absurd (by omega) g, fun _ => a_W.imp (m_die hB 8 _ s l c22) ?_⟩
    rintro _ rfl
    refine ⟨_, l, rfl, w202_185 hB (by omega) _ _ _ _ _ l ⟨fun _ => lg (Or.inl (by omega)), fun g => ?_⟩⟩
    rw [zz_ne _ _ _ _ _ _ (by omega), zz_same _ _ _ (by decide)] at g
    exact absurd g (by decide)
  refine w202_164 hB (by omega) _ _ _ _ s l ⟨fun _ => w202_185 hB (by omega) _ _ _ _ s l ⟨fun g => absurd c22 g, fun _ => ?_⟩, fun g => absurd g (by omega)⟩
  obtain ⟨w80, w81⟩ := hWI.wide
  rw [natc] at w80 w81
  have hwr := hWI.rng
  have hHW := tyH_le T
  -- the meaning
  have mean : ¬ (40 < tyW T) → ¬ (12 < tyH T) → a_W d 202 197 [.ref 56, iv x1, iv (kM (k0 : Int)), iv (w : Int), iv x4, .retAddr 0] [] (mkH B s l) (MCR t n vs tn ta cn ct fx B s0 l0) := by
    intro hw40 hh12
    rw [if_neg (by omega)] at eR
    have hmm := m_meant hB hv hta h2a l (nB T) T (Nat.le_refl _) (d - 1) 0 W2 w s fx (by omega) hW2 hWI k4 (nmOk.imp (fun q hq => ⟨hq.2.1, hq.2.2, hC.2.2.2.2.2.2.2.1 q hq.1⟩) T hnm) c22 h16 (by omega)
    refine w202_197 hB (by omega) _ _ _ _ s l ⟨fun _ => a_W.imp hmm ?_, fun h => absurd h (by omega)⟩
    rintro _ ⟨s2, x, rfl, f2, N2, p1, p2, p3, p4⟩
    have hV2 : MV (nsT t n vs (coN t n)) s2 l := by
      rw [hN]
      exact hC.2.2.2.2.2.2.1.fr (f2.2.1 5 (by decide) (by decide) (by decide)) rfl
    have hF2 := k1.n f2 h17
    have g0 := (f2.2.1 0 (by decide) (by decide) (by decide)).trans k2
    have g2 := (f2.2.1 2 (by decide) (by decide) (by decide)).trans k3
    have hT2 := f2.ty k4
    have hCo2 : MCo cn ct fx s2 l := hK'.2.2.2.2.fr (f2.2.1 3 (by decide) (by decide) (by decide)) (f2.2.1 17 (by decide) (by decide) (by decide)) (f2.1 59 (by decide) (by decide)) (f2.1 60 (by decide) (by decide)) (fun k h1 h2 q hq => f2.2.2 k h1 (by omega) q hq) rfl
    refine ⟨_, s2, l, rfl, ?_⟩
    rcases p4 with ⟨b1, b2, b3, b4, b5, bx, b6⟩ | ⟨b1, b2, b3⟩
    · rw [if_neg (by rw [b1]; decide)] at eR
      have c3 : zz s2 56 3 = (cn.length : Nat) := hCo2.1
      refine ⟨fun _ => ⟨⟨by omega, by omega⟩, hx4r, ?_⟩, fun h => absurd h (by omega)⟩
      rw [c3, natc, p1]
      have hx : inR x := by
        cases hcd : cdT t n vs tn T with
        | leaf q => rw [hcd] at b5; rw [show x = -1 from b5]; decide
        | branch e y z => rw [hcd] at b5; have := b5.1; exact ⟨by omega, by omega⟩
      have el : (cn ++ [nmW t n (stT t n 0)]).length = cn.length + 1 := by rw [List.length_append]; rfl
      -- the new table, but for the names
      have fin : ∀ (s3 : aZ) (l3 : aZL), (∀ k, k ≠ 56 → k ≠ 59 → k ≠ 60 → s3 k = s2 k) → (∀ j, j ≠ 17 → zz s3 56 j = zz s2 56 j) → zz s3 56 17 = (N2 : Nat) → zz s3 59 cn.length = x → (∀ j, j ≠ cn.length → zz s3 59 j = zz s2 59 j) → (∀ k, k ≠ 58 → l3 k = l k) → (∀ c, c < cn.length → LN l3 58 c (wdN (cn.getD c []))) → LN l3 58 cn.length (wdN (nmW t n (stT t n 0))) → (∀ k : Nat, 20 ≤ k → k ≤ 24 → zz s3 60 k = zz s2 60 k) → (∀ k : Nat, 19 ≤ k → k ≤ 22 → zz s3 60 (k + 6) = fd (cn ++ [nmW t n (stT t n 0)]) (opN (k : Int)) (cn.length + 1)) → VN (wdN (nmW t n (stT t n 0))) → (∀ c, cn.length + 1 ≤ c → c < 112 → LN l3 58 c []) → a_W d 202 285 [.ref 56, iv x1, iv (kM (k0 : Int)), iv (w : Int), iv x4, iv x] [] (mkH B s3 l3) (MCR t n vs tn ta cn ct fx B s0 l0) := by
        intro s3 l3 q1 q2 q3 q4 q5 q6 q7 q8 q9 q10 q11 q12
        have c3' : zz s3 56 3 = (cn.length : Nat) := (q2 3 (by decide)).trans c3
        refine w202_285 hB _ _ _ _ _ s3 l3 ?_
        rw [c3', show (cn.length : Int) + 1 - 1 = (cn.length : Int) by omega]
        have z : ∀ q, q ≠ 3 → zz (zu s3 56 3 ((cn.length : Int) + 1)) 56 q = zz s3 56 q := fun q hq => zz_ne _ _ _ _ _ _ (by omega)
        have zk : ∀ k, k ≠ 56 → zu s3 56 3 ((cn.length : Int) + 1) k = s3 k := fun k hk => zu_ne _ _ _ _ _ hk
        refine ⟨_, l3, ⟨fun k h1 h2 h3 h4 h5 h6 h7 h8 => (zk k h1).trans ((q1 k h1 h2 h3).trans (hF2.1 k h1 h2 h3 h4 h5 h6 h7 h8)), fun q hq => ?_, fun k h1 h2 h3 => (q6 k h1).trans (hF2.2.2.1 k h1 h2 h3), fun k h1 h2 j hj => (zz_of (zk k (by omega)) j).trans ((zz_of (q1 k (by omega) (by omega) (by omega)) j).trans (hF2.2.2.2 k h1 h2 j hj))⟩, ?_, ?_, ?_, ?_, Or.inr ⟨T, N2, eR, rfl, ?_, ?_, ?_, fun j hj1 hj2 => (b6 j hj1 hj2).2.k (fun k k1 k2 => (zz_of (zk k (by omega)) j).trans (zz_of (q1 k (by omega) (by omega) (by omega)) j))⟩⟩
        · rw [z q (fun e => hq (by rw [e]; decide)), q2 q (fun e => hq (by rw [e]; decide))]
          exact hF2.2.1 q hq
        · rw [z 0 (by decide), q2 0 (by decide)]; exact g0
        · rw [z 2 (by decide), q2 2 (by decide)]; exact g2
        · exact (hV2.fr (q2 5 (by decide)) (q6 63 (by decide))).z56 3 _ (by decide)
        · exact (hT2.fr (q2 4 (by decide)) (q1 62 (by decide) (by decide) (by decide)) (q6 61 (by decide))).z56 3 _ (by decide)
        · rw [z 22 (by decide), q2 22 (by decide)]; exact b2
        · rw [z 23 (by decide), q2 23 (by decide), b3]; exact c23
        · have hcl : cn.length ≤ 111 := by omega
          refine ⟨?_, by rw [el]; omega, ?_, ?_, by rw [el]; omega, ?_, ?_, ?_, ?_, by rw [el]; exact q12, ?_⟩
          · rw [zz_same _ _ _ ⟨by omega, by omega⟩, el]; rfl
          · rw [List.length_append, List.length_append, a3]; rfl
          · rw [z 17 (by decide), q3]
          · intro i jj hi hjj
            rw [el] at hjj
            by_cases e : jj < cn.length
            · rw [getD_app _ _ _ _ (by omega), getD_app _ _ _ _ e]; exact a6 i jj hi e
            · have ej : jj = cn.length := by omega
              rw [ej, getD_last, getD_app _ _ _ _ (by omega)]
              rcases fd_cases cn (nmW t n (stT t n 0)) cn.length with ⟨-, h⟩ | ⟨i', h1, h2, -⟩
              · exact h i (by omega)
              · omega
          · intro c hc
            rw [el] at hc
            by_cases e : c < cn.length
            · rw [getD_app _ _ _ _ e]; exact ⟨(a7 c e).1, q7 c e⟩
            · have ec : c = cn.length := by omega
              rw [ec, getD_last]
              exact ⟨q11, q8⟩
          · intro k h1 h2
            rw [zz_of (zk 60 (by decide)), el]
            exact q10 k h1 h2
          · have h60 := hCo2.2.2.2.2.2.2.2.2.1
            rw [zz_of (zk 60 (by decide)), zz_of (zk 60 (by decide)), zz_of (zk 60 (by decide)), zz_of (zk 60 (by decide)), zz_of (zk 60 (by decide)), q9 20 (by decide) (by decide), q9 21 (by decide) (by decide), q9 22 (by decide) (by decide), q9 23 (by decide) (by decide), q9 24 (by decide) (by decide)]
            exact h60
          · intro c hc
            rw [el] at hc
            have kp : ∀ k q, (k = 64 ∨ k = 65 ∨ k = 66) → zz (zu s3 56 3 ((cn.length : Int) + 1)) k q = zz s2 k q := fun k q hk => (zz_of (zk k (by omega)) q).trans (zz_of (q1 k (by omega) (by omega) (by omega)) q)
            by_cases e : c < cn.length
            · rw [getD_app _ _ _ _ (by rw [a3]; exact e), zz_of (zk 59 (by decide)), q5 c (by omega)]
              exact NI.keep (fun k q g _ _ => kp k q g) (Nat.le_refl _) p2 _ _ (hCo2.2.2.2.2.2.2.2.2.2.2 c e)
            · have ec : c = cn.length := by omega
              have ec2 : c = ct.length := by omega
              have eg : (ct ++ [cdT t n vs tn T]).getD c cNo = cdT t n vs tn T := by rw [ec2]; exact getD_last _ _ _
              rw [eg, ec, zz_of (zk 59 (by decide)), q4]
              exact NI.keep (fun k q g _ _ => kp k q g) (Nat.zero_le _) (Nat.le_refl _) _ _ b5
      have fdn : ∀ k : Nat, 19 ≤ k → k ≤ 22 → (x4 = 1 ∨ (k : Int) ≠ k0) → fd (cn ++ [nmW t n (stT t n 0)]) (opN (k : Int)) (cn.length + 1) = fd cn (opN (k : Int)) cn.length := by
        intro k h1 h2 h3
        have hne : opN (k : Int) ≠ nmW t n (stT t n 0) := fun e => by
          have := hop k (by omega) (by omega) e
          rcases h3 with c | c <;> omega
        have e1 : fd (cn ++ [nmW t n (stT t n 0)]) (opN (k : Int)) (cn.length + 1) = if (cn ++ [nmW t n (stT t n 0)]).getD cn.length [] = opN (k : Int) then (cn.length : Int) else fd (cn ++ [nmW t n (stT t n 0)]) (opN (k : Int)) cn.length := rfl
        rw [e1, getD_last, if_neg (fun e => hne e.symm), fd_app _ _ _ _ (Nat.le_refl _)]
      rcases hx4 with ⟨e, o1, o2, o3⟩ | ⟨e, o1, o2, o3⟩
      · subst e
        have km : kM (k0 : Int) = ((k0 + 6 : Nat) : Int) := by unfold kM; omega
        refine ⟨fun _ => ⟨by rw [km]; exact ⟨by omega, by omega⟩, ?_⟩, fun h => absurd rfl h⟩
        rw [km, natc, ← km]
        have hk59 : ∀ k, k ≠ 56 → k ≠ 59 → k ≠ 60 → zu (zu (zu s2 59 cn.length x) 56 17 (N2 : Int)) 60 (k0 + 6) (cn.length : Int) k = s2 k := fun k h1 h2 h3 => by rw [zu_ne _ _ _ _ _ h3, zu_ne _ _ _ _ _ h1, zu_ne _ _ _ _ _ h2]
        refine fin _ l hk59 (fun q hq => ?_) ?_ ?_ (fun q hq => ?_) (fun _ _ => rfl) (fun c hc => (a7 c hc).2) ?_ (fun k h1 h2 => ?_) (fun k h1 h2 => ?_) ?_ (fun c h1 h2 => a11 c (by omega) h2)
        · rw [zz_ne _ _ _ _ _ _ (by omega), zz_ne _ _ _ _ _ _ (by omega), zz_ne _ _ _ _ _ _ (by omega)]
        · rw [zz_ne _ _ _ _ _ _ (by omega), zz_same _ _ _ ⟨by omega, by omega⟩]
        · rw [zz_ne _ _ _ _ _ _ (by omega), zz_ne _ _ _ _ _ _ (by omega), zz_same _ _ _ hx]
        · rw [zz_ne _ _ _ _ _ _ (by omega), zz_ne _ _ _ _ _ _ (by omega), zz_ne _ _ _ _ _ _ (by omega)]
        · rw [hnw rfl]
          exact a11 cn.length (Nat.le_refl _) (by omega)
        · rw [zz_ne _ _ _ _ _ _ (by omega), zz_ne _ _ _ _ _ _ (by omega), zz_ne _ _ _ _ _ _ (by omega)]
        · by_cases ek : k = k0
          · subst ek
            rw [zz_same _ _ _ ⟨by omega, by omega⟩]
            have e1 : fd (cn ++ [nmW t n (stT t n 0)]) (opN (k : Int)) (cn.length + 1) = if (cn ++ [nmW t n (stT t n 0)]).getD cn.length [] = opN (k : Int) then (cn.length : Int) else fd (cn ++ [nmW t n (stT t n 0)]) (opN (k : Int)) cn.length := rfl
            rw [e1, getD_last, if_pos o3]
          · rw [zz_ne _ _ _ _ _ _ (by omega), zz_ne _ _ _ _ _ _ (by omega), zz_ne _ _ _ _ _ _ (by omega), fdn k h1 h2 (Or.inr (by omega))]
            exact hCo2.2.2.2.2.2.2.2.1 k h1 h2
        · rw [hnw rfl]
          exact ⟨by decide, fun c hc => absurd hc List.not_mem_nil⟩
      · subst e
        refine ⟨fun h => absurd h (by decide), fun _ => ?_⟩
        refine a_W.imp (m_write58 hB _ l cn.length 0 (by omega) (by decide)) ?_
        rintro _ ⟨l3, rfl, w1, w2, w3⟩
        refine ⟨_, l3, rfl, fin _ l3 (fun k h1 h2 _ => by rw [zu_ne _ _ _ _ _ h1, zu_ne _ _ _ _ _ h2]) (fun q hq => ?_) ?_ ?_ (fun q hq => ?_) w3 (fun c hc q hq => ?_) (fun q hq => ?_) (fun k h1 h2 => ?_) (fun k h1 h2 => ?_) (by rw [o1]; exact o2) (fun c h1 h2 q hq => by rw [w2 _ (by omega)]; exact a11 c (by omega) h2 q hq)⟩
        · rw [zz_ne _ _ _ _ _ _ (by omega), zz_ne _ _ _ _ _ _ (by omega)]
        · rw [zz_same _ _ _ ⟨by omega, by omega⟩]
        · rw [zz_ne _ _ _ _ _ _ (by omega), zz_same _ _ _ hx]
        · rw [zz_ne _ _ _ _ _ _ (by omega), zz_ne _ _ _ _ _ _ (by omega)]
        · rw [w2 _ (by omega)]
          exact (a7 c hc).2 q hq
        · rw [w1 q hq, o1]
          exact o3 q hq
        · rw [zz_ne _ _ _ _ _ _ (by omega), zz_ne _ _ _ _ _ _ (by omega)]
        · rw [zz_ne _ _ _ _ _ _ (by omega), zz_ne _ _ _ _ _ _ (by omega), fdn k h1 h2 (Or.inl rfl)]
          exact hCo2.2.2.2.2.2.2.2.1 k h1 h2
    · rw [if_pos b1] at eR
      refine ⟨fun h => absurd h (by omega), fun _ => ?_⟩
      have z : ∀ q, q ≠ 16 → zz (zu s2 56 16 (zz s2 56 17)) 56 q = zz s2 56 q := fun q hq => zz_ne _ _ _ _ _ _ (by omega)
      exact ⟨_, l, hF2.zu 16 _ (by decide), (z 0 (by decide)).trans g0, (z 2 (by decide)).trans g2, hV2.z56 16 _ (by decide), hT2.z56 16 _ (by decide), Or.inl ⟨3, 0, eR, rfl, (z 22 (by decide)).trans b2, (z 23 (by decide)).trans (b3.trans e72), hCo2.z56 16 _ (by decide) (by decide)⟩⟩
  refine w183_0 hB (by omega) _ s l ⟨⟨by omega, by omega⟩, fun g => ⟨fun _ => ⟨_, l, rfl, lg (Or.inr (Or.inl ?_))⟩, fun h => absurd h (by omega)⟩, fun g => ⟨fun g2 => ⟨s, l, rfl, mean ?_ ?_⟩, fun g2 => ⟨fun _ => ⟨_, l, rfl, lg (Or.inr (Or.inr ?_))⟩, fun h => absurd h (by omega)⟩⟩⟩
  · rw [natc, w80] at g; omega
  · rw [natc, w80] at g; omega
  · rw [natc, w81] at g2; omega
  · rw [natc, w81] at g2; omega
end
