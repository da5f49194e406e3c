/-! TERMS AND POOLS OF THE REFERENCE: what the steps of making come to -/
theorem gd_map (v : Nat → aT) : ∀ (ρ : List Nat) (e : Nat), e < ρ.length → (ρ.map v).getD e cNo = v (ρ.getD e 0) := by
  intro ρ
  induction ρ with
  | nil => intro e h; exact absurd h (Nat.not_lt_zero _)
  | cons r ρ ih =>
    intro e h
    cases e with
    | zero => rfl
    | succ e => exact ih e (by rw [List.length_cons] at h; omega)
theorem gd_mem : ∀ (ρ : List Nat) (e : Nat), e < ρ.length → ρ.getD e 0 ∈ ρ := by
  intro ρ
  induction ρ with
  | nil => intro e h; exact absurd h (Nat.not_lt_zero _)
  | cons r ρ ih =>
    intro e h
    cases e with
    | zero => exact List.mem_cons_self
    | succ e => exact List.mem_cons_of_mem _ (ih e (by rw [List.length_cons] at h; omega))
/-- the pool's cells are the same -/
def eqP (s s2 : aZ) : Prop := ∀ c, 64 ≤ c → c ≤ 67 → ∀ j, zz s2 c j = zz s c j
theorem eqP.vw {s s2 : aZ} (h : eqP s s2) : vwM s2 = vwM s := vwM_of h
theorem PEm.vw {ar : Int → Nat} {P : Nat} {s s2 : aZ} {rt u : Nat → Nat} (h : PEm ar P s rt u) (e : eqP s s2) (h16 : zz s2 56 16 = zz s 56 16) : PEm ar P s2 rt u := by
  obtain ⟨h1, h2, h3, h4⟩ := h
  have hv := e.vw
  refine ⟨⟨h16.trans h1.1, fun j hj => ?_⟩, by rw [hv]; exact h2, by rw [hv]; exact h3, by rw [hv]; exact h4⟩
  rw [e 65 (by decide) (by decide), e 66 (by decide) (by decide), e 67 (by decide) (by decide)]
  exact h1.2 j hj
section
variable {t : Nat → Int} {n : Nat} {ns tn : List (List Int)} {ta : List Int} {ct : List aT}
theorem MVl.vw {ρ : List Nat} {K : aT} {L : List Nat} {P P2 : Nat} {s s2 s3 : aZ} (h : MVl t n ns tn ta ct ρ K L P s P2 s2) (e : eqP s2 s3) (h16 : zz s3 56 16 = zz s2 56 16) : MVl t n ns tn ta ct ρ K L P s P2 s3 := by
  obtain ⟨⟨rt, u, h1⟩, h2, h3⟩ := h
  refine ⟨⟨rt, u, h1.vw e h16⟩, ?_, ?_⟩
  · rw [e.vw]; exact h2
  · rw [e.vw]; exact h3
theorem MVl.vw0 {ρ : List Nat} {K : aT} {L : List Nat} {P P2 : Nat} {s s0 s2 : aZ} (h : MVl t n ns tn ta ct ρ K L P s P2 s2) (e : eqP s0 s) : MVl t n ns tn ta ct ρ K L P s0 P2 s2 := by
  obtain ⟨h1, h2, h3⟩ := h
  rw [e.vw] at h2 h3
  exact ⟨h1, h2, h3⟩
/-- an application -/
theorem MVl.ap {ρ : List Nat} {Kf Kx : aT} {Lf Lx : List Nat} {P P1 P2 : Nat} {s s1 s2 s3 : aZ} (hf : MVl t n ns tn ta ct ρ Kf Lf P s P1 s1) (hx : MVl t n ns tn ta ct ρ Kx Lx P1 s1 P2 s2) (hρ : ∀ k ∈ ρ, k < P) (hP : P ≤ P1) (hP1 : P1 ≤ P2) (h0 : 0 < P2) (lf : 0 < Lf.length) (lx : 0 < Lx.length) (bf : ∀ k ∈ Lf, k < P1) (bx : ∀ k ∈ Lx, k < P2) (h16 : zz s3 56 16 = ((P2 + 2 : Nat) : Int)) (hfr : ∀ c, 64 ≤ c → c ≤ 67 → ∀ k, k < P2 → zz s3 c k = zz s2 c k) (hN : BkM (arT ta) P2 (P2 + 2) s3) (e0 : zz s3 64 P2 = -1) (e1 : zz s3 64 (P2 + 1) = 2) (e2 : zz s3 65 (P2 + 1) = (Lx.headD 0 : Nat)) (e3 : zz s3 66 (P2 + 1) = (P2 : Nat)) : (∃ rt u, PEm (arT ta) (P2 + 2) s3 rt u) ∧ ((∀ v, Vl unM (P2 + 2) (vwM s3) v → v (Lf.headD 0) ≠ v (P2 + 1)) → ∀ v R, Vl unM P (vwM s) v → ¬ tyd t n ns tn ct (apT Kf Kx) (ρ.map v) R) ∧ ∀ s4, (∃ rt u, PEm (arT ta) (P2 + 2) s4 rt u) → (∀ v, Vl unM (P2 + 2) (vwM s4) v ↔ (Vl unM (P2 + 2) (vwM s3) v ∧ v (Lf.headD 0) = v (P2 + 1))) → MVl t n ns tn ta ct ρ (apT Kf Kx) (P2 :: (Lf ++ Lx)) P s (P2 + 2) s4 := by
  obtain ⟨-, f2, f3⟩ := hf
  obtain ⟨⟨rt, u, x1⟩, x2, x3⟩ := hx
  obtain ⟨b1, b2, b3⟩ := x1.blk h0 (by omega) h16 hfr hN
  have val : ∀ v, Vl unM (P2 + 2) (vwM s3) v → v (P2 + 1) = fnT (v (Lx.headD 0)) (v P2) := fun v hv => by
    have := (hv (P2 + 1) (by omega)).2 (by show zz s3 64 (P2 + 1) ≠ -1; omega)
    rw [show (vwM s3).2.1 (P2 + 1) = 2 from e1, show (vwM s3).2.2.1 (P2 + 1) = (Lx.headD 0 : Nat) from e2, show (vwM s3).2.2.2 (P2 + 1) = (P2 : Nat) from e3, ptT_p _ _ (by omega), ptT_p _ _ (by omega), natc, natc] at this
    exact this
  have hfm : ∀ k ∈ Lf, k < P2 := fun k hk => by have := bf k hk; omega
  have hdm : ∀ (L : List Nat), 0 < L.length → (L.headD 0) ∈ L := fun L h => by
    cases L with
    | nil => exact absurd h (by decide)
    | cons a L => exact List.mem_cons_self
  have hfl : Lf.headD 0 < P2 := hfm _ (hdm Lf lf)
  have hxl : Lx.headD 0 < P2 := bx _ (hdm Lx lx)
  -- old valuations go on
  have go : ∀ v R, Vl unM P (vwM s) v → tyd t n ns tn ct (apT Kf Kx) (ρ.map v) R → ∃ v3, Vl unM (P2 + 2) (vwM s3) v3 ∧ (∀ k, k < P → v3 k = v k) ∧ v3 (Lf.headD 0) = v3 (P2 + 1) ∧ (P2 :: (Lf ++ Lx)).map v3 = R := fun v R hV hT => by
    obtain ⟨τ, Rf, Rx, q1, q2, q3, q4⟩ := (tyd_ap _ _ _ _).mp hT
    obtain ⟨v1, m1, m2, m3⟩ := f3 v Rf hV q1
    obtain ⟨v2, k1, k2, k3⟩ := x3 v1 Rx m1 (by rw [map_agree hρ m2]; exact q2)
    obtain ⟨v3, n1, n2, n3⟩ := b3 v2 k1 (fun _ => τ)
    have ef : Lf.map v3 = Rf := by rw [map_agree hfm n2, map_agree bf k2, m3]
    have ex : Lx.map v3 = Rx := by rw [map_agree bx n2, k3]
    have eP := n3 P2 (Nat.le_refl _) (by omega) e0
    refine ⟨v3, n1, fun k hk => (n2 k (by omega)).trans ((k2 k (by omega)).trans (m2 k hk)), ?_, ?_⟩
    · rw [val v3 n1, eP, ← hd_map (v := v3) lf, ← hd_map (v := v3) lx, ef, ex]
      exact q4
    · rw [List.map_cons, List.map_append, ef, ex, eP, q3]
  refine ⟨⟨_, _, b1⟩, fun no v R hV hT => ?_, fun s4 hE hj => ⟨hE, fun v hv => ?_, fun v R hV hT => ?_⟩⟩
  · obtain ⟨v3, n1, -, n3, -⟩ := go v R hV hT
    exact no v3 n1 n3
  · obtain ⟨g1, g2⟩ := (hj v).mp hv
    obtain ⟨g3, g4⟩ := x2 v (b2 v g1)
    obtain ⟨g5, g6⟩ := f2 v g3
    refine ⟨g5, (tyd_ap _ _ _ _).mpr ⟨v P2, Lf.map v, Lx.map v, g6, g4, by rw [List.map_cons, List.map_append], ?_⟩⟩
    rw [hd_map lf, hd_map lx, g2, val v g1]
  · obtain ⟨v3, n1, n2, n3, n4⟩ := go v R hV hT
    exact ⟨v3, (hj v3).mpr ⟨n1, n3⟩, n2, n4⟩
/-- the variable's type is there: node α -/
def MVa (a : aT) (α P : Nat) (s : aZ) (P1 : Nat) (s1 : aZ) (t : Nat → Int) (n : Nat) (ns tn : List (List Int)) (ta : List Int) : Prop := (∃ rt u, PEm (arT ta) P1 s1 rt u) ∧ α < P1 ∧ (∀ v, Vl unM P1 (vwM s1) v → Vl unM P (vwM s) v ∧ (a ≠ noT → v α = cdT t n ns tn a)) ∧ ∀ v τ, Vl unM P (vwM s) v → (a ≠ noT → τ = cdT t n ns tn a) → ∃ v2, Vl unM P1 (vwM s1) v2 ∧ (∀ k, k < P → v2 k = v k) ∧ v2 α = τ
/-- an abstraction -/
theorem MVl.ab {ρ : List Nat} {a Kb : aT} {Lb : List Nat} {α P P1 P2 : Nat} {s s1 s2 s3 : aZ} (ha : MVa a α P s P1 s1 t n ns tn ta) (hb : MVl t n ns tn ta ct (α :: ρ) Kb Lb P1 s1 P2 s2) (hρ : ∀ k ∈ ρ, k < P) (hP : P ≤ P1) (hP1 : P1 ≤ P2) (h0 : 0 < P2) (lb : 0 < Lb.length) (bb : ∀ k ∈ Lb, k < P2) (h16 : zz s3 56 16 = ((P2 + 1 : Nat) : Int)) (hfr : ∀ c, 64 ≤ c → c ≤ 67 → ∀ k, k < P2 → zz s3 c k = zz s2 c k) (hN : BkM (arT ta) P2 (P2 + 1) s3) (e1 : zz s3 64 P2 = 2) (e2 : zz s3 65 P2 = (α : Nat)) (e3 : zz s3 66 P2 = (Lb.headD 0 : Nat)) : MVl t n ns tn ta ct ρ (.branch 1 a Kb) (P2 :: Lb) P s (P2 + 1) s3 := by
  obtain ⟨-, aα, a2, a3⟩ := ha
  obtain ⟨⟨rt, u, x1⟩, x2, x3⟩ := hb
  obtain ⟨b1, b2, b3⟩ := x1.blk h0 (by omega) h16 hfr hN
  have val : ∀ v, Vl unM (P2 + 1) (vwM s3) v → v P2 = fnT (v α) (v (Lb.headD 0)) := fun v hv => by
    have := (hv P2 (by omega)).2 (by show zz s3 64 P2 ≠ -1; omega)
    rw [show (vwM s3).2.1 P2 = 2 from e1, show (vwM s3).2.2.1 P2 = (α : Nat) from e2, show (vwM s3).2.2.2 P2 = (Lb.headD 0 : Nat) from e3, ptT_p _ _ (by omega), ptT_p _ _ (by omega), natc, natc] at this
    exact this
  refine ⟨⟨_, _, b1⟩, fun v hv => ?_, fun v R hV hT => ?_⟩
  · obtain ⟨g3, g4⟩ := x2 v (b2 v hv)
    obtain ⟨g5, g6⟩ := a2 v g3
    refine ⟨g5, (tyd_ab _ _ _ _).mpr ⟨v α, Lb.map v, g6, g4, ?_⟩⟩
    rw [List.map_cons, hd_map lb, val v hv]
  · obtain ⟨τ, Rb, q1, q2, q3⟩ := (tyd_ab _ _ _ _).mp hT
    obtain ⟨v1, m1, m2, m3⟩ := a3 v τ hV q1
    obtain ⟨v2, k1, k2, k3⟩ := x3 v1 Rb m1 (by rw [List.map_cons, m3, map_agree hρ m2]; exact q2)
    obtain ⟨v3, n1, n2, -⟩ := b3 v2 k1 (fun _ => cNo)
    have eb : Lb.map v3 = Rb := by rw [map_agree bb n2, k3]
    refine ⟨v3, n1, fun k hk => (n2 k (by omega)).trans ((k2 k (by omega)).trans (m2 k hk)), ?_⟩
    rw [List.map_cons, val v3 n1, ← hd_map (v := v3) lb, eb, n2 α (by omega), k2 α aα, m3, q3]
/-- no types for the body, none for the whole -/
theorem MVa.no {ρ : List Nat} {a Kb : aT} {α P P1 : Nat} {s s1 : aZ} (ha : MVa a α P s P1 s1 t n ns tn ta) (hρ : ∀ k ∈ ρ, k < P) (hb : ∀ v R, Vl unM P1 (vwM s1) v → ¬ tyd t n ns tn ct Kb ((α :: ρ).map v) R) : ∀ v R, Vl unM P (vwM s) v → ¬ tyd t n ns tn ct (.branch 1 a Kb) (ρ.map v) R := fun v R hV hT => by
  obtain ⟨τ, Rb, q1, q2, q3⟩ := (tyd_ab _ _ _ _).mp hT
  obtain ⟨v1, m1, m2, m3⟩ := ha.2.2.2 v τ hV q1
  exact hb v1 Rb m1 (by rw [List.map_cons, m3, map_agree hρ m2]; exact q2)
/-- a term with a type -/
theorem MVl.as {ρ : List Nat} {K b : aT} {L : List Nat} {P P1 P2 y : Nat} {s s1 s2 : aZ} (h : MVl t n ns tn ta ct ρ K L P s P1 s1) (hP1 : P1 ≤ P2) (h0 : 0 < P1) (ll : 0 < L.length) (bl : ∀ k ∈ L, k < P1) (h16 : zz s2 56 16 = (P2 : Nat)) (hfr : ∀ c, 64 ≤ c → c ≤ 67 → ∀ k, k < P1 → zz s2 c k = zz s1 c k) (hN : BkM (arT ta) P1 P2 s2) (hy : ∀ v, Vl unM P2 (vwM s2) v → v y = cdT t n ns tn b) : (∃ rt u, PEm (arT ta) P2 s2 rt u) ∧ ((∀ v, Vl unM P2 (vwM s2) v → v (L.headD 0) ≠ v y) → ∀ v R, P ≤ P1 → Vl unM P (vwM s) v → ¬ tyd t n ns tn ct (.branch 2 K b) (ρ.map v) R) ∧ ∀ s4, P ≤ P1 → (∃ rt u, PEm (arT ta) P2 s4 rt u) → (∀ v, Vl unM P2 (vwM s4) v ↔ (Vl unM P2 (vwM s2) v ∧ v (L.headD 0) = v y)) → MVl t n ns tn ta ct ρ (.branch 2 K b) L P s P2 s4 := by
  obtain ⟨⟨rt, u, h1⟩, h2, h3⟩ := h
  obtain ⟨b1, b2, b3⟩ := h1.blk h0 hP1 h16 hfr hN
  have go : ∀ v R, P ≤ P1 → Vl unM P (vwM s) v → tyd t n ns tn ct (.branch 2 K b) (ρ.map v) R → ∃ v3, Vl unM P2 (vwM s2) v3 ∧ (∀ k, k < P → v3 k = v k) ∧ v3 (L.headD 0) = v3 y ∧ L.map v3 = R := fun v R hP hV hT => by
    obtain ⟨q1, q2⟩ := (tyd_as _ _ _ _).mp hT
    obtain ⟨v2, k1, k2, k3⟩ := h3 v R hV q1
    obtain ⟨v3, n1, n2, -⟩ := b3 v2 k1 (fun _ => cNo)
    have e : L.map v3 = R := by rw [map_agree bl n2, k3]
    exact ⟨v3, n1, fun k hk => (n2 k (by omega)).trans (k2 k hk), by rw [← hd_map (v := v3) ll, e, hy v3 n1, q2], e⟩
  refine ⟨⟨_, _, b1⟩, fun no v R hP hV hT => ?_, fun s4 hP hE hj => ⟨hE, fun v hv => ?_, fun v R hV hT => ?_⟩⟩
  · obtain ⟨v3, n1, -, n3, -⟩ := go v R hP hV hT
    exact no v3 n1 n3
  · obtain ⟨g1, g2⟩ := (hj v).mp hv
    obtain ⟨g3, g4⟩ := h2 v (b2 v g1)
    refine ⟨g3, (tyd_as _ _ _ _).mpr ⟨g4, ?_⟩⟩
    rw [hd_map ll, g2, hy v g1]
  · obtain ⟨v3, n1, n2, n3, n4⟩ := go v R hP hV hT
    exact ⟨v3, (hj v3).mpr ⟨n1, n3⟩, n2, n4⟩
/-- a variable -/
theorem MVl.v {ρ : List Nat} {e P : Nat} {s : aZ} (he : e < ρ.length) (hE : ∃ rt u, PEm (arT ta) P s rt u) : MVl t n ns tn ta ct ρ (.leaf (4, e)) [ρ.getD e 0] P s P s := by
  have k : ∀ v : Nat → aT, (ρ.map v).getD e cNo = v (ρ.getD e 0) := fun v => gd_map v ρ e he
  refine ⟨hE, fun v hv => ⟨hv, (tyd_v _ _ _).mpr (by rw [k]; rfl)⟩, fun v R hV hT => ⟨v, hV, fun _ _ => rfl, ?_⟩⟩
  have := (tyd_v _ _ _).mp hT
  rw [this, k]
  rfl
end
