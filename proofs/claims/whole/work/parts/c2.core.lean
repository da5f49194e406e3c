/-! TERMS WITH RESOLVED NAMES, their types -/
/-- leaf (4, d): a bound variable; leaf (5, c): a constant; leaf (6, 0): = on bool; leaf (7, 0): an unknown name; branch 0: an application; branch 1: an abstraction (its variable's type, its body); branch 2: a term with a type -/
def ixE : List (List Int) → List Int → Nat
  | [], _ => 0
  | a :: l, nm => if a = nm then 0 else ixE l nm + 1
def nmK (t : Nat → Int) (n i : Nat) : List Int := nmW t n (stT t n i)
def cnK (cn : List (List Int)) (nm : List Int) : aT := if 0 ≤ fd cn nm cn.length then .leaf (5, (fd cn nm cn.length).toNat) else .leaf (7, 0)
def sgR (cn : List (List Int)) (k : Nat) : aT := if k = 14 then .leaf (6, 0) else cnK cn (opN (k : Int))
def numK : Nat → aT
  | 0 => .leaf (5, 10)
  | v + 1 => apT (.leaf (5, 11)) (numK v)
def lfK (t : Nat → Int) (n : Nat) (cn : List (List Int)) (q : Nat × Nat) (env : List (List Int)) : aT := if q.1 = 0 then (if ixE env (nmK t n q.2) < env.length then .leaf (4, ixE env (nmK t n q.2)) else cnK cn (nmK t n q.2)) else if q.1 = 1 then sgR cn q.2 else numK q.2
def rsv (t : Nat → Int) (n : Nat) (cn : List (List Int)) : aT → List (List Int) → aT
  | .leaf q, env => lfK t n cn q env
  | .branch m a b, env => if m = 0 then .branch 0 (rsv t n cn a env) (rsv t n cn b env) else if m = 2 then .branch 2 (rsv t n cn a env) b else .branch 1 a (rsv t n cn b (nmK t n (m / 4) :: env))
theorem rsv_ap (t : Nat → Int) (n : Nat) (cn : List (List Int)) (f x : aT) (env : List (List Int)) : rsv t n cn (apT f x) env = apT (rsv t n cn f env) (rsv t n cn x env) := rfl
theorem rsv_as (t : Nat → Int) (n : Nat) (cn : List (List Int)) (a b : aT) (env : List (List Int)) : rsv t n cn (.branch 2 a b) env = .branch 2 (rsv t n cn a env) b := rfl
theorem rsv_ab (t : Nat → Int) (n : Nat) (cn : List (List Int)) (i : Nat) (ty b : aT) (env : List (List Int)) : rsv t n cn (abT i ty b) env = .branch 1 ty (rsv t n cn b (nmK t n i :: env)) := by
  show (if 4 * i + 1 = 0 then _ else if 4 * i + 1 = 2 then _ else (Lean.RArray.branch 1 ty (rsv t n cn b (nmK t n ((4 * i + 1) / 4) :: env)) : aT)) = _
  rw [if_neg (by omega), if_neg (by omega), show (4 * i + 1) / 4 = i by omega]
theorem numK_w : ∀ v, tmW (numK v) = 2 * v + 1 ∧ tmH (numK v) = v + 1 ∧ csT (numK v) = 42 * v + 40 := by
  intro v
  induction v with
  | zero => exact ⟨rfl, rfl, rfl⟩
  | succ v ih =>
    obtain ⟨h1, h2, h3⟩ := ih
    refine ⟨?_, ?_, ?_⟩
    · show 1 + (1 + tmW (numK v)) = _; omega
    · show 1 + max 1 (tmH (numK v)) = _; omega
    · show 2 + (40 + csT (numK v)) = _; omega
theorem lf_w (p : Nat × Nat) (h : p.1 ≠ 2) : tmW (.leaf p) = 1 ∧ tmH (.leaf p) = 1 ∧ csT (.leaf p) = 40 := ⟨if_neg h, if_neg h, if_neg h⟩
theorem cnK_w (cn : List (List Int)) (nm : List Int) : tmW (cnK cn nm) = 1 ∧ tmH (cnK cn nm) = 1 ∧ csT (cnK cn nm) = 40 := by
  unfold cnK
  split
  · exact lf_w _ (show (5 : Nat) ≠ 2 by decide)
  · exact lf_w _ (by decide)
theorem sgR_w (cn : List (List Int)) (k : Nat) : tmW (sgR cn k) = 1 ∧ tmH (sgR cn k) = 1 ∧ csT (sgR cn k) = 40 := by
  unfold sgR
  split
  · exact lf_w _ (by decide)
  · exact cnK_w _ _
theorem lfK_w (t : Nat → Int) (n : Nat) (cn : List (List Int)) (q : Nat × Nat) (env : List (List Int)) (h : q.1 ≤ 2) : tmW (lfK t n cn q env) = tmW (.leaf q) ∧ tmH (lfK t n cn q env) = tmH (.leaf q) ∧ csT (lfK t n cn q env) = csT (.leaf q) := by
  unfold lfK
  by_cases h0 : q.1 = 0
  · rw [if_pos h0, (lf_w q (by omega)).1, (lf_w q (by omega)).2.1, (lf_w q (by omega)).2.2]
    split
    · exact lf_w _ (show (4 : Nat) ≠ 2 by decide)
    · exact cnK_w _ _
  · rw [if_neg h0]
    by_cases h1 : q.1 = 1
    · rw [if_pos h1, (lf_w q (by omega)).1, (lf_w q (by omega)).2.1, (lf_w q (by omega)).2.2]
      exact sgR_w _ _
    · rw [if_neg h1]
      have h2 : q.1 = 2 := by omega
      obtain ⟨a, b, c⟩ := numK_w q.2
      rw [a, b, c]
      show _ = (if q.1 = 2 then 2 * q.2 + 1 else 1) ∧ _ = (if q.1 = 2 then q.2 + 1 else 1) ∧ _ = (if q.1 = 2 then 42 * q.2 + 40 else 40)
      rw [if_pos h2, if_pos h2, if_pos h2]
      exact ⟨rfl, rfl, rfl⟩
theorem rsv_w (t : Nat → Int) (n j : Nat) (cn : List (List Int)) : ∀ (T : aT) (env : List (List Int)), tmOk t n j T → tmW (rsv t n cn T env) = tmW T ∧ tmH (rsv t n cn T env) = tmH T ∧ csT (rsv t n cn T env) = csT T := by
  intro T
  induction T with
  | leaf q =>
    intro env h
    exact lfK_w t n cn q env (by rcases h with h | h | h <;> have := h.1 <;> omega)
  | branch m a b iha ihb =>
    intro env h
    show tmW (if m = 0 then _ else if m = 2 then _ else _) = (if m = 0 then _ else if m = 2 then _ else _) ∧ tmH (if m = 0 then _ else if m = 2 then _ else _) = (if m = 0 then _ else if m = 2 then _ else _) ∧ csT (if m = 0 then _ else if m = 2 then _ else _) = (if m = 0 then _ else if m = 2 then _ else _)
    rcases h with ⟨h0, h1, h2⟩ | ⟨h0, h1, h2, h3⟩ | ⟨h0, h1, h2⟩
    · obtain ⟨a1, a2, a3⟩ := iha env h1
      obtain ⟨b1, b2, b3⟩ := ihb env h2
      simp only [if_pos h0]
      exact ⟨by show 1 + (tmW _ + tmW _) = _; rw [a1, b1], by show 1 + max (tmH _) (tmH _) = _; rw [a2, b2], by show 2 + (csT _ + csT _) = _; rw [a3, b3]⟩
    · have n0 : ¬ m = 0 := by omega
      have n2 : ¬ m = 2 := by omega
      obtain ⟨b1, b2, b3⟩ := ihb (nmK t n (m / 4) :: env) h3
      simp only [if_neg n0, if_neg n2]
      exact ⟨by show 1 + tmW _ = _; rw [b1], by show 1 + tmH _ = _; rw [b2], by show 2 + csT _ = _; rw [b3]⟩
    · have n0 : ¬ m = 0 := by omega
      obtain ⟨a1, a2, a3⟩ := iha env h1
      simp only [if_neg n0, if_pos h0]
      exact ⟨a1, a2, a3⟩
/-- an unknown name; a wrong type; too large a type -/
def unK : aT → Bool
  | .leaf q => decide (q.1 = 7)
  | .branch m a b => if m = 0 then unK a || unK b else if m = 2 then unK a else unK b
def bdA (t : Nat → Int) (n : Nat) (tn : List (List Int)) (ta : List Int) : aT → Bool
  | .leaf _ => false
  | .branch m a b => if m = 0 then bdA t n tn ta a || bdA t n tn ta b else if m = 2 then bdA t n tn ta a || tyBad t n tn ta b else tyBad t n tn ta a || bdA t n tn ta b
def hdT (R : List aT) : aT := R.headD cNo
def fnT (a b : aT) : aT := .branch (enc 2) a b
/-- the rows of types that a term can have: ρ the types of the variables, the innermost first -/
def tyd (t : Nat → Int) (n : Nat) (ns tn : List (List Int)) (ct : List aT) : aT → List aT → List aT → Prop
  | .leaf q, ρ, R => if q.1 = 4 then R = [ρ.getD q.2 cNo] else if q.1 = 5 then ∃ τ, R = [nsC τ (ct.getD q.2 cNo)] else if q.1 = 6 then ∃ τ, R = [nsC τ (ct.getD 6 cNo)] else False
  | .branch m a b, ρ, R => if m = 0 then ∃ τ Rf Rx, tyd t n ns tn ct a ρ Rf ∧ tyd t n ns tn ct b ρ Rx ∧ R = τ :: (Rf ++ Rx) ∧ hdT Rf = fnT (hdT Rx) τ else if m = 2 then tyd t n ns tn ct a ρ R ∧ hdT R = cdT t n ns tn b else ∃ α Rb, (a ≠ noT → α = cdT t n ns tn a) ∧ tyd t n ns tn ct b (α :: ρ) Rb ∧ R = fnT α (hdT Rb) :: Rb
section
variable {t : Nat → Int} {n : Nat} {ns tn : List (List Int)} {ct : List aT}
theorem tyd_ap (f x : aT) (ρ R : List aT) : tyd t n ns tn ct (apT f x) ρ R ↔ ∃ τ Rf Rx, tyd t n ns tn ct f ρ Rf ∧ tyd t n ns tn ct x ρ Rx ∧ R = τ :: (Rf ++ Rx) ∧ hdT Rf = fnT (hdT Rx) τ := Iff.rfl
theorem tyd_as (a b : aT) (ρ R : List aT) : tyd t n ns tn ct (.branch 2 a b) ρ R ↔ (tyd t n ns tn ct a ρ R ∧ hdT R = cdT t n ns tn b) := Iff.rfl
theorem tyd_ab (a b : aT) (ρ R : List aT) : tyd t n ns tn ct (.branch 1 a b) ρ R ↔ ∃ α Rb, (a ≠ noT → α = cdT t n ns tn a) ∧ tyd t n ns tn ct b (α :: ρ) Rb ∧ R = fnT α (hdT Rb) :: Rb := Iff.rfl
theorem tyd_v (k : Nat) (ρ R : List aT) : tyd t n ns tn ct (.leaf (4, k)) ρ R ↔ R = [ρ.getD k cNo] := Iff.rfl
theorem tyd_c (k : Nat) (ρ R : List aT) : tyd t n ns tn ct (.leaf (5, k)) ρ R ↔ ∃ τ, R = [nsC τ (ct.getD k cNo)] := Iff.rfl
theorem tyd_b (k : Nat) (ρ R : List aT) : tyd t n ns tn ct (.leaf (6, k)) ρ R ↔ ∃ τ, R = [nsC τ (ct.getD 6 cNo)] := Iff.rfl
end
/-- the symbol of a leaf -/
def syL (q : Nat × Nat) : Int := if q.1 = 4 then 2 * (q.2 : Int) else if q.1 = 5 then 2 * (q.2 : Int) + 1 else if q.1 = 6 then 1 else 0
/-- the symbols of a term in prefix order -/
def syK : aT → List Int
  | .leaf q => [syL q]
  | .branch m a b => if m = 0 then -1 :: (syK a ++ syK b) else if m = 2 then syK a else -2 :: syK b
/-- node w of the reader's tree holds this term; L: the nodes of its symbols' types -/
def TI (s : aZ) (lo hi : Nat) : aT → Nat → List Nat → Prop
  | .leaf q, w, L => (lo ≤ w ∧ w < hi) ∧ zz s 46 w = syL q ∧ zz s 47 w = 0 ∧ zz s 48 w = 0 ∧ zz s 50 w = 1 ∧ L = [(zz s 49 w).toNat]
  | .branch m a b, w, L => if m = 0 then (lo ≤ w ∧ w < hi) ∧ zz s 46 w = -1 ∧ zz s 50 w = tmH (.branch 0 a b) ∧ ∃ (wf wx : Nat) (Lf Lx : List Nat), zz s 47 w = wf ∧ zz s 48 w = wx ∧ TI s lo hi a wf Lf ∧ TI s lo hi b wx Lx ∧ L = (zz s 49 w).toNat :: (Lf ++ Lx) else if m = 2 then TI s lo hi a w L else (lo ≤ w ∧ w < hi) ∧ zz s 46 w = -2 ∧ zz s 50 w = tmH (.branch 1 a b) ∧ zz s 48 w = 0 ∧ ∃ (wb : Nat) (Lb : List Nat), zz s 47 w = wb ∧ TI s lo hi b wb Lb ∧ L = (zz s 49 w).toNat :: Lb
theorem TI_ap {s : aZ} {lo hi : Nat} {a b : aT} {w : Nat} {L : List Nat} : TI s lo hi (apT a b) w L ↔ ((lo ≤ w ∧ w < hi) ∧ zz s 46 w = -1 ∧ zz s 50 w = tmH (.branch 0 a b) ∧ ∃ (wf wx : Nat) (Lf Lx : List Nat), zz s 47 w = wf ∧ zz s 48 w = wx ∧ TI s lo hi a wf Lf ∧ TI s lo hi b wx Lx ∧ L = (zz s 49 w).toNat :: (Lf ++ Lx)) := Iff.rfl
theorem TI_as {s : aZ} {lo hi : Nat} {a b : aT} {w : Nat} {L : List Nat} : TI s lo hi (.branch 2 a b) w L ↔ TI s lo hi a w L := Iff.rfl
theorem TI_ab {s : aZ} {lo hi : Nat} {a b : aT} {w : Nat} {L : List Nat} : TI s lo hi (.branch 1 a b) w L ↔ ((lo ≤ w ∧ w < hi) ∧ zz s 46 w = -2 ∧ zz s 50 w = tmH (.branch 1 a b) ∧ zz s 48 w = 0 ∧ ∃ (wb : Nat) (Lb : List Nat), zz s 47 w = wb ∧ TI s lo hi b wb Lb ∧ L = (zz s 49 w).toNat :: Lb) := Iff.rfl
/-- cores: what rsv makes -/
def coK : aT → Prop
  | .leaf q => q.1 ≠ 2
  | .branch m a b => (m = 0 ∧ coK a ∧ coK b) ∨ (m = 2 ∧ coK a) ∨ (m = 1 ∧ coK b)
theorem coK_num : ∀ v, coK (numK v) := by
  intro v
  induction v with
  | zero => exact (by decide : (5 : Nat) ≠ 2)
  | succ v ih => exact Or.inl ⟨rfl, (by decide : (5 : Nat) ≠ 2), ih⟩
theorem coK_cn (cn : List (List Int)) (nm : List Int) : coK (cnK cn nm) := by
  unfold cnK
  split
  · exact (by decide : (5 : Nat) ≠ 2)
  · exact (by decide : (7 : Nat) ≠ 2)
theorem coK_lf (t : Nat → Int) (n : Nat) (cn : List (List Int)) (q : Nat × Nat) (env : List (List Int)) : coK (lfK t n cn q env) := by
  unfold lfK sgR
  split
  · split
    · exact (by decide : (4 : Nat) ≠ 2)
    · exact coK_cn _ _
  · split
    · split
      · exact (by decide : (6 : Nat) ≠ 2)
      · exact coK_cn _ _
    · exact coK_num _
theorem coK_rsv (t : Nat → Int) (n : Nat) (cn : List (List Int)) : ∀ (T : aT) (env : List (List Int)), coK (rsv t n cn T env) := by
  intro T
  induction T with
  | leaf q => intro env; exact coK_lf t n cn q env
  | branch m a b iha ihb =>
    intro env
    show coK (if m = 0 then _ else if m = 2 then _ else _)
    split
    · exact Or.inl ⟨rfl, iha env, ihb env⟩
    · split
      · exact Or.inr (Or.inl ⟨rfl, iha env⟩)
      · exact Or.inr (Or.inr ⟨rfl, ihb _⟩)
theorem TI.top {s : aZ} {lo hi : Nat} : ∀ (K : aT) (w : Nat) (L : List Nat), coK K → TI s lo hi K w L → (lo ≤ w ∧ w < hi) ∧ zz s 50 w = tmH K ∧ L.headD 0 = (zz s 49 w).toNat ∧ L.length = tmW K := by
  intro K
  induction K with
  | leaf q =>
    intro w L hk h
    obtain ⟨h1, h2, h3, h4, h5, rfl⟩ := h
    have := lf_w q hk
    rw [this.1, this.2.1]
    exact ⟨h1, h5, rfl, rfl⟩
  | branch m a b iha ihb =>
    intro w L hk h
    rcases hk with ⟨rfl, ka, kb⟩ | ⟨rfl, ka⟩ | ⟨rfl, kb⟩
    · obtain ⟨h1, h2, h3, wf, wx, Lf, Lx, h4, h5, h6, h7, rfl⟩ := TI_ap.mp h
      have l1 := (iha wf Lf ka h6).2.2.2
      have l2 := (ihb wx Lx kb h7).2.2.2
      refine ⟨h1, h3, rfl, ?_⟩
      rw [List.length_cons, List.length_append, l1, l2]
      show _ = 1 + (tmW a + tmW b)
      omega
    · exact iha w L ka (TI_as.mp h)
    · obtain ⟨h1, h2, h3, h4, wb, Lb, h5, h6, rfl⟩ := TI_ab.mp h
      have l1 := (ihb wb Lb kb h6).2.2.2
      refine ⟨h1, h3, rfl, ?_⟩
      rw [List.length_cons, l1]
      show _ = 1 + tmW b
      omega
theorem TI.keep {s s2 : aZ} {lo hi lo2 hi2 : Nat} (he : ∀ k j, 46 ≤ k → k ≤ 50 → lo ≤ j → j < hi → zz s2 k j = zz s k j) (h1 : lo2 ≤ lo) (h2 : hi ≤ hi2) : ∀ (K : aT) (w : Nat) (L : List Nat), TI s lo hi K w L → TI s2 lo2 hi2 K w L := by
  intro K
  induction K with
  | leaf q =>
    intro w L h
    obtain ⟨g1, g2, g3, g4, g5, g6⟩ := h
    have z : ∀ k, 46 ≤ k → k ≤ 50 → zz s2 k w = zz s k w := fun k a b => he k w a b g1.1 g1.2
    exact ⟨⟨by omega, by omega⟩, (z 46 (by decide) (by decide)).trans g2, (z 47 (by decide) (by decide)).trans g3, (z 48 (by decide) (by decide)).trans g4, (z 50 (by decide) (by decide)).trans g5, by rw [z 49 (by decide) (by decide)]; exact g6⟩
  | branch m a b iha ihb =>
    intro w L h
    by_cases m0 : m = 0
    · subst m0
      obtain ⟨g1, g2, g3, wf, wx, Lf, Lx, g4, g5, g6, g7, g8⟩ := TI_ap.mp h
      have z : ∀ k, 46 ≤ k → k ≤ 50 → zz s2 k w = zz s k w := fun k a b => he k w a b g1.1 g1.2
      exact TI_ap.mpr ⟨⟨by omega, by omega⟩, (z 46 (by decide) (by decide)).trans g2, (z 50 (by decide) (by decide)).trans g3, wf, wx, Lf, Lx, (z 47 (by decide) (by decide)).trans g4, (z 48 (by decide) (by decide)).trans g5, iha _ _ g6, ihb _ _ g7, by rw [z 49 (by decide) (by decide)]; exact g8⟩
    · by_cases m2 : m = 2
      · subst m2
        exact TI_as.mpr (iha w L (TI_as.mp h))
      · have e : TI s lo hi (.branch m a b) w L = ((lo ≤ w ∧ w < hi) ∧ zz s 46 w = -2 ∧ zz s 50 w = tmH (.branch 1 a b) ∧ zz s 48 w = 0 ∧ ∃ (wb : Nat) (Lb : List Nat), zz s 47 w = wb ∧ TI s lo hi b wb Lb ∧ L = (zz s 49 w).toNat :: Lb) := by
          show (if m = 0 then _ else if m = 2 then _ else _) = _
          rw [if_neg m0, if_neg m2]
        have e2 : TI s2 lo2 hi2 (.branch m a b) w L = ((lo2 ≤ w ∧ w < hi2) ∧ zz s2 46 w = -2 ∧ zz s2 50 w = tmH (.branch 1 a b) ∧ zz s2 48 w = 0 ∧ ∃ (wb : Nat) (Lb : List Nat), zz s2 47 w = wb ∧ TI s2 lo2 hi2 b wb Lb ∧ L = (zz s2 49 w).toNat :: Lb) := by
          show (if m = 0 then _ else if m = 2 then _ else _) = _
          rw [if_neg m0, if_neg m2]
        rw [e] at h
        rw [e2]
        obtain ⟨g1, g2, g3, g4, wb, Lb, g5, g6, g7⟩ := h
        have z : ∀ k, 46 ≤ k → k ≤ 50 → zz s2 k w = zz s k w := fun k a b => he k w a b g1.1 g1.2
        exact ⟨⟨by omega, by omega⟩, (z 46 (by decide) (by decide)).trans g2, (z 50 (by decide) (by decide)).trans g3, (z 48 (by decide) (by decide)).trans g4, wb, Lb, (z 47 (by decide) (by decide)).trans g5, ihb _ _ g6, by rw [z 49 (by decide) (by decide)]; exact g7⟩
