/-! WHAT A PARSED TERM IS LIKE -/
/-- token i is a name, before place j -/
def tkN (t : Nat → Int) (n j i : Nat) : Prop := i < j ∧ ftT t n i = 0 ∧ kdT t n i = 1
def tmOk (t : Nat → Int) (n j : Nat) : aT → Prop
  | .leaf q => (q.1 = 0 ∧ tkN t n j q.2) ∨ (q.1 = 1 ∧ 10 ≤ q.2 ∧ q.2 ≤ 22) ∨ (q.1 = 2 ∧ q.2 ≤ 49)
  | .branch m a b => (m = 0 ∧ tmOk t n j a ∧ tmOk t n j b) ∨ (m % 4 = 1 ∧ tkN t n j (m / 4) ∧ nmOk (tkN t n j) a ∧ tmOk t n j b) ∨ (m = 2 ∧ tmOk t n j a ∧ nmOk (tkN t n j) b)
/-- parts on a way down -/
def aHt : aT → Nat
  | .leaf _ => 1
  | .branch m a b => if m = 0 then 1 + max (aHt a) (aHt b) else if m = 2 then 1 + aHt a else 1 + aHt b
section
variable {t : Nat → Int} {n : Nat}
theorem tkN.mono {j k i : Nat} (h : tkN t n j i) (hk : j ≤ k) : tkN t n k i := ⟨by have := h.1; omega, h.2⟩
theorem tmOk.mono {j k : Nat} (hk : j ≤ k) : ∀ T : aT, tmOk t n j T → tmOk t n k T := by
  intro T
  induction T with
  | leaf q =>
    intro h
    rcases h with ⟨h1, h2⟩ | h | h
    · exact Or.inl ⟨h1, h2.mono hk⟩
    · exact Or.inr (Or.inl h)
    · exact Or.inr (Or.inr h)
  | branch m a b iha ihb =>
    intro h
    rcases h with ⟨h1, h2, h3⟩ | ⟨h1, h2, h3, h4⟩ | ⟨h1, h2, h3⟩
    · exact Or.inl ⟨h1, iha h2, ihb h3⟩
    · exact Or.inr (Or.inl ⟨h1, h2.mono hk, nmOk.imp (fun i q => q.mono hk) a h3, ihb h4⟩)
    · exact Or.inr (Or.inr ⟨h1, iha h2, nmOk.imp (fun i q => q.mono hk) b h3⟩)
/-- a tree at depth dep -/
def tmD (t : Nat → Int) (n j dep : Nat) (T : aT) : Prop := tmOk t n j T ∧ aHt T ≤ tmH T + (40 - dep)
theorem tmD.mono {j k dep : Nat} {T : aT} (h : tmD t n j dep T) (hk : j ≤ k) : tmD t n k dep T := ⟨tmOk.mono hk T h.1, h.2⟩
theorem tmD.sg {j dep k : Nat} (h : 10 ≤ k ∧ k ≤ 22) : tmD t n j dep (sgT k) := ⟨Or.inr (Or.inl ⟨rfl, h⟩), by show 1 ≤ 1 + _; omega⟩
theorem tmD.ap {j dep : Nat} {f x : aT} (hf : tmD t n j dep f) (hx : tmD t n j dep x) : tmD t n j dep (apT f x) := by
  refine ⟨Or.inl ⟨rfl, hf.1, hx.1⟩, ?_⟩
  have h1 := hf.2
  have h2 := hx.2
  show 1 + max (aHt f) (aHt x) ≤ 1 + max (tmH f) (tmH x) + (40 - dep)
  omega
theorem tmD.op {j dep o : Nat} {a x : aT} (ho : 10 ≤ o ∧ o ≤ 22) (ha : tmD t n j dep a) (hx : tmD t n j dep x) : tmD t n j dep (opT o a x) := ((tmD.sg ho).ap ha).ap hx
theorem tmD.ab {j dep i : Nat} {ty b : aT} (hi : tkN t n j i) (ht : nmOk (tkN t n j) ty) (hb : tmD t n j dep b) : tmD t n j dep (abT i ty b) := by
  refine ⟨Or.inr (Or.inl ⟨by omega, ?_, ht, hb.1⟩), ?_⟩
  · rw [show (4 * i + 1) / 4 = i by omega]; exact hi
  · have := hb.2
    rw [tmH_ab]
    show (if _ then _ else if _ then _ else _) ≤ _
    rw [if_neg (ab_m i).1, if_neg (ab_m i).2]
    omega
theorem tmD.b1 {j dep k i : Nat} {ty b : aT} (hk : 9 ≤ k ∧ k ≤ 12) (hi : tkN t n j i) (ht : nmOk (tkN t n j) ty) (hb : tmD t n j dep b) : tmD t n j dep (b1T k i ty b) := by
  unfold b1T
  split
  · exact tmD.ab hi ht hb
  · exact (tmD.sg ⟨by omega, by omega⟩).ap (tmD.ab hi ht hb)
theorem tmD.bd {j dep k : Nat} (hk : 9 ≤ k ∧ k ≤ 12) : ∀ (vs : aSt) (b : aT), (∀ q ∈ vs, tkN t n j q.1 ∧ nmOk (tkN t n j) q.2) → tmD t n j dep b → tmD t n j dep (bdT k vs b) := by
  intro vs
  induction vs with
  | nil => intro b _ h; exact h
  | cons q vs ih =>
    intro b hv h
    exact ih _ (fun r hr => hv r (List.mem_cons_of_mem _ hr)) (tmD.b1 hk (hv q List.mem_cons_self).1 (hv q List.mem_cons_self).2 h)
/-- what waits -/
def StD (t : Nat → Int) (n j dep : Nat) (st : aSt) : Prop := ∀ q ∈ st, (14 ≤ q.1 ∧ q.1 ≤ 22) ∧ tmD t n j dep q.2
theorem StD.mono {j k dep : Nat} {st : aSt} (h : StD t n j dep st) (hk : j ≤ k) : StD t n k dep st := fun q hq => ⟨(h q hq).1, (h q hq).2.mono hk⟩
theorem tmD.stl {j dep : Nat} (g : Int) : ∀ (st : aSt) (x : aT), StD t n j dep st → tmD t n j dep x → StD t n j dep (stl g st x).1 ∧ tmD t n j dep (stl g st x).2 := by
  intro st
  induction st with
  | nil => intro x h1 h2; exact ⟨h1, h2⟩
  | cons q st ih =>
    intro x h1 h2
    rw [stl_c]
    split
    · obtain ⟨k1, k2⟩ := h1 q List.mem_cons_self
      exact ih _ (fun r hr => h1 r (List.mem_cons_of_mem _ hr)) (tmD.op ⟨by omega, by omega⟩ k2 h2)
    · exact ⟨h1, h2⟩
/-- a binder's variables -/
def VsD (t : Nat → Int) (n j : Nat) (vs : aSt) : Prop := ∀ q ∈ vs, tkN t n j q.1 ∧ nmOk (tkN t n j) q.2
theorem VsD.mono {j k : Nat} {vs : aSt} (h : VsD t n j vs) (hk : j ≤ k) : VsD t n k vs := fun q hq => ⟨(h q hq).1.mono hk, nmOk.imp (fun i r => r.mono hk) _ (h q hq).2⟩
def InD (t : Nat → Int) (n m dep : Nat) (st : aSt) (x : aT) (i : Nat) : Prop := (m ≤ 1 → StD t n i dep st) ∧ (m = 1 ∨ m = 3 → tmD t n i dep x) ∧ (5 ≤ m → VsD t n i st ∧ 9 ≤ kOf x ∧ kOf x ≤ 12)
def wIn (m : Nat) (st : aSt) (x : aT) : Nat := if m = 0 then stW st else if m = 1 then stW st + tmW x else if m = 3 then tmW x else if 5 ≤ m then st.length else 0
def cIn (m : Nat) (st : aSt) (x : aT) : Nat := if m = 0 then stC st else if m = 1 then stC st + csT x else if m = 3 then csT x else if 5 ≤ m then 2 * st.length else 0
def TmR (t : Nat → Int) (n m dep : Nat) (st : aSt) (x : aT) (i : Nat) : (Int × Nat) ⊕ (aT × Nat) → Prop
  | .inl q => i ≤ q.2 ∧ q.2 ≤ 6000
  | .inr q => i ≤ q.2 ∧ q.2 ≤ 6000 ∧ (m ≠ 1 → m ≠ 3 → i < q.2) ∧ (m ≠ 4 → ftT t n q.2 = 0) ∧ tmD t n q.2 dep q.1 ∧ wIn m st x ≤ tmW q.1 ∧ cIn m st x ≤ csT q.1
theorem dgV_49 {i : Nat} (h0 : ftT t n i = 0) (h3 : kdT t n i = 3) : 0 ≤ dgV t (n - stT t n i) (stT t n i) 0 ∧ dgV t (n - stT t n i) (stT t n i) 0 ≤ 49 := by
  have hs := kd_rng h0
  have hl : stT t n i < n := by omega
  have hF := (ft0 h0 hl).2
  have hk : tkK t n (stT t n i) = 3 := by
    unfold kdT at h3
    rw [if_pos hl] at h3
    exact h3
  refine ⟨(dgV_rng t _ _ 0 ⟨Int.le_refl _, by decide⟩).1, ?_⟩
  unfold tkF at hF
  unfold tkK at hk
  by_cases c1 : z31 (t (stT t n i)) ≠ 0
  · rw [if_pos c1] at hk
    split at hk <;> exact absurd hk (by decide)
  rw [if_neg c1] at hF hk
  by_cases c2 : t (stT t n i) = 39
  · rw [if_pos c2] at hk
    exact absurd hk (by decide)
  rw [if_neg c2] at hF hk
  by_cases c3 : z34 (t (stT t n i)) ≠ 0
  · rw [if_pos c3] at hF
    by_cases c4 : 49 < dgV t (n - stT t n i) (stT t n i) 0
    · rw [if_pos c4] at hF
      exact absurd hF (by decide)
    · omega
  · exfalso
    rw [if_neg c3] at hk
    have a1 : ∀ a b c : Int, z43 a b c ≠ 3 := fun a b c => by unfold z43; omega
    have a2 : ∀ a b : Int, z44 a b ≠ 3 := fun a b => by unfold z44; omega
    have a3 : ∀ a : Int, z45 a ≠ 3 := fun a => by unfold z45; omega
    split at hk
    · exact a1 _ _ _ hk
    · split at hk
      · exact a2 _ _ hk
      · exact a3 _ hk
theorem z96_k {k : Int} (h : z96 k ≠ 0) : 14 ≤ k ∧ k ≤ 22 := by unfold z96 at h; omega
theorem z59_k {k : Int} (h : z59 k ≠ 0) : 9 ≤ k ∧ k ≤ 12 := by unfold z59 at h; omega
theorem TmR.weak {m m2 dep dep2 i i2 : Nat} {st st2 : aSt} {x x2 : aT} {r : (Int × Nat) ⊕ (aT × Nat)} (h : TmR t n m dep st x i r) (hi : i2 ≤ i) (hp : (m2 ≠ 1 → m2 ≠ 3 → i2 < i ∨ (m ≠ 1 ∧ m ≠ 3))) (hf : m2 ≠ 4 → m ≠ 4) (hd : dep2 ≤ dep) (hw : wIn m2 st2 x2 ≤ wIn m st x) (hc : cIn m2 st2 x2 ≤ cIn m st x) : TmR t n m2 dep2 st2 x2 i2 r := by
  cases r with
  | inl q => exact ⟨by have := h.1; omega, h.2⟩
  | inr q =>
    obtain ⟨h1, h2, h3, h4, h5, h6, h7⟩ := h
    refine ⟨by omega, h2, fun a b => ?_, fun a => h4 (hf a), ⟨h5.1, by have := h5.2; omega⟩, by omega, by omega⟩
    rcases hp a b with c | ⟨c1, c2⟩
    · omega
    · have := h3 c1 c2; omega
theorem TmR.map {m2 dep i : Nat} {st2 : aSt} {x2 : aT} {a : aT} {j : Nat} (hij : i ≤ j) (hj : j ≤ 6000) (hp : m2 ≠ 1 → m2 ≠ 3 → i < j) (hf : m2 ≠ 4 → ftT t n j = 0) (hD : tmD t n j dep a) (hw : wIn m2 st2 x2 ≤ tmW a) (hc : cIn m2 st2 x2 ≤ csT a) : TmR t n m2 dep st2 x2 i (.inr (a, j)) := ⟨hij, hj, hp, hf, hD, hw, hc⟩
end
/-- WHAT A PARSE COMES TO -/
theorem ptm_R (t : Nat → Int) (n : Nat) : ∀ (N m dep : Nat) (st : aSt) (x : aT) (i : Nat) (res : (Int × Nat) ⊕ (aT × Nat)), m ≤ 6 → i ≤ 6000 → InD t n m dep st x i → ptm t n N m dep st x i = some res → TmR t n m dep st x i res := by
  intro N
  induction N with
  | zero => intro m dep st x i res _ _ _ h; exact absurd (show (none : aPr) = some res from h) (by intro h; cases h)
  | succ N ih =>
    intro m dep st x i res hm hi hI h
    have nx : ∀ q, ftT t n q = 0 → kdT t n q ≠ 0 → q < 6000 := fun q h0 hk => by
      have := kd_rng h0
      exact (ft0 h0 (by omega)).1
    have bad : ∀ (f : Int) (q : Nat), i ≤ q → q ≤ 6000 → res = .inl (f, q) → TmR t n m dep st x i res := by
      rintro f q h1 h2 rfl
      exact ⟨h1, h2⟩
    have I0 : ∀ m2 dep2 (i2 : Nat), m2 = 0 ∨ m2 = 2 ∨ m2 = 4 → InD t n m2 dep2 [] noT i2 := fun m2 dep2 i2 h => ⟨fun _ q hq => absurd hq List.not_mem_nil, fun c => by omega, fun c => by omega⟩
    rcases (show m = 0 ∨ m = 1 ∨ m = 2 ∨ m = 3 ∨ m = 4 ∨ m = 5 ∨ m = 6 by omega) with rfl | rfl | rfl | rfl | rfl | rfl | rfl
    · rw [ptm_0] at h
      rcases pLk_some h with ⟨c, e⟩ | ⟨h0, h⟩
      · exact bad _ i (Nat.le_refl _) hi e
      rcases pBd_some h with ⟨e, q1, q2⟩ | ⟨a, j, q1, q2⟩
      · have := ih 2 dep [] noT i _ (by decide) hi (I0 2 _ _ (by omega)) q1
        exact bad e.1 e.2 this.1 this.2 q2
      · obtain ⟨k1, k2, k3, k4, k5, -, -⟩ := ih 2 dep [] noT i _ (by decide) hi (I0 2 _ _ (by omega)) q1
        have k3 := k3 (by decide) (by decide)
        have r := ih 1 dep st a j _ (by decide) k2 ⟨fun _ => (hI.1 (by decide)).mono (by omega), fun _ => k5, fun c => absurd c (by decide)⟩ q2
        exact r.weak (by omega) (fun _ _ => Or.inl k3) (fun _ => by decide) (Nat.le_refl _) (by show stW st ≤ stW st + tmW a; omega) (by show stC st ≤ stC st + csT a; omega)
    · rw [ptm_1] at h
      rcases pLk_some h with ⟨c, e⟩ | ⟨h0, h⟩
      · exact bad _ i (Nat.le_refl _) hi e
      have hs := hI.1 (by decide)
      have hx := hI.2.1 (Or.inl rfl)
      by_cases c0 : z96 (kdT t n i) = 0
      · rw [if_pos c0] at h
        cases h
        have hw := stl_w 0 st x
        have he : (stl 0 st x).1 = [] := stl_0 st x (fun q hq => by have := (hs q hq).1; unfold z96; omega)
        rw [he] at hw
        exact TmR.map (Nat.le_refl _) hi (fun c => absurd rfl c) (fun _ => h0) (tmD.stl 0 st x hs hx).2 (by show stW st + tmW x ≤ _; have := hw.1; have e : stW [] = 0 := rfl; omega) (by show stC st + csT x ≤ _; have := hw.2.1; have e : stC [] = 0 := rfl; omega)
      rw [if_neg c0] at h
      by_cases c5 : z96 (kdT t n i) = 5 ∧ top5 (stl 5 st x).1 = true
      · rw [if_pos c5] at h
        cases h
        exact bad 2 i (Nat.le_refl _) hi rfl
      rw [if_neg c5] at h
      have hk := z96_k c0
      have hi2 := nx i h0 (by omega)
      obtain ⟨d1, d2⟩ := tmD.stl (z96 (kdT t n i)) st x hs hx
      have hw := stl_w (z96 (kdT t n i)) st x
      have r := ih 0 dep _ noT (i + 1) _ (by decide) (by omega) ⟨fun _ q hq => ?_, fun c => by omega, fun c => absurd c (by decide)⟩ h
      · refine r.weak (by omega) (fun c => absurd rfl c) (fun _ => by decide) (Nat.le_refl _) ?_ ?_
        · show stW st + tmW x ≤ tmW (stl (z96 (kdT t n i)) st x).2 + 3 + stW (stl (z96 (kdT t n i)) st x).1
          have := hw.1; omega
        · show stC st + csT x ≤ csT (stl (z96 (kdT t n i)) st x).2 + 44 + stC (stl (z96 (kdT t n i)) st x).1
          have := hw.2.1; omega
      · rcases List.mem_cons.mp hq with rfl | hq
        · exact ⟨⟨by show 14 ≤ (kdT t n i).toNat; omega, by show (kdT t n i).toNat ≤ 22; omega⟩, d2.mono (by omega)⟩
        · exact ⟨(d1 q hq).1, (d1 q hq).2.mono (by omega)⟩
    · rw [ptm_2] at h
      rcases pLk_some h with ⟨c, e⟩ | ⟨h0, h⟩
      · exact bad _ i (Nat.le_refl _) hi e
      by_cases k13 : kdT t n i = 13
      · rw [if_pos k13] at h
        have hi2 := nx i h0 (by omega)
        rcases pBd_some h with ⟨e, q1, q2⟩ | ⟨a, j, q1, q2⟩
        · have := ih 2 dep [] noT (i + 1) _ (by decide) (by omega) (I0 2 _ _ (by omega)) q1
          exact bad e.1 e.2 (by have := this.1; omega) this.2 q2
        · obtain ⟨k1, k2, k3, k4, k5, -, -⟩ := ih 2 dep [] noT (i + 1) _ (by decide) (by omega) (I0 2 _ _ (by omega)) q1
          have k1 : i + 1 ≤ j := k1
          cases q2
          exact TmR.map (by omega) k2 (fun _ _ => by omega) (fun _ => k4 (by decide)) ((tmD.sg ⟨by decide, by decide⟩).ap k5) (Nat.zero_le _) (Nat.zero_le _)
      rw [if_neg k13] at h
      by_cases k9 : z59 (kdT t n i) ≠ 0
      · rw [if_pos k9] at h
        have hk := z59_k k9
        have hi2 := nx i h0 (by omega)
        rcases pLk_some h with ⟨c, e⟩ | ⟨h1, h⟩
        · exact bad _ (i + 1) (by omega) (by omega) e
        by_cases d4 : 40 ≤ dep
        · rw [if_pos d4] at h
          cases h
          exact bad 8 (i + 1) (by omega) (by omega) rfl
        rw [if_neg d4] at h
        have r := ih 5 (dep + 1) [] (sgT (kdT t n i).toNat) (i + 1) _ (by decide) (by omega) ⟨fun c => absurd c (by decide), fun c => by omega, fun _ => ⟨fun q hq => absurd hq List.not_mem_nil, by show 9 ≤ (kdT t n i).toNat; omega, by show (kdT t n i).toNat ≤ 12; omega⟩⟩ h
        exact r.weak (by omega) (fun _ _ => Or.inl (by omega)) (fun _ => by decide) (by omega) (Nat.zero_le _) (Nat.zero_le _)
      rw [if_neg k9] at h
      rcases pBd_some h with ⟨e, q1, q2⟩ | ⟨a, j, q1, q2⟩
      · have := ih 4 dep [] noT i _ (by decide) hi (I0 4 _ _ (by omega)) q1
        exact bad e.1 e.2 this.1 this.2 q2
      · obtain ⟨k1, k2, k3, k4, k5, -, -⟩ := ih 4 dep [] noT i _ (by decide) hi (I0 4 _ _ (by omega)) q1
        have k3 := k3 (by decide) (by decide)
        have r := ih 3 dep [] a j _ (by decide) k2 ⟨fun c => absurd c (by decide), fun _ => k5, fun c => absurd c (by decide)⟩ q2
        exact r.weak (by omega) (fun _ _ => Or.inl k3) (fun _ => by decide) (Nat.le_refl _) (Nat.zero_le _) (Nat.zero_le _)
    · rw [ptm_3] at h
      rcases pLk_some h with ⟨c, e⟩ | ⟨h0, h⟩
      · exact bad _ i (Nat.le_refl _) hi e
      have hx := hI.2.1 (Or.inr rfl)
      by_cases c0 : z102 (kdT t n i) ≠ 0
      · rw [if_pos c0] at h
        rcases pBd_some h with ⟨e, q1, q2⟩ | ⟨a, j, q1, q2⟩
        · have := ih 4 dep [] noT i _ (by decide) hi (I0 4 _ _ (by omega)) q1
          exact bad e.1 e.2 this.1 this.2 q2
        · obtain ⟨k1, k2, k3, k4, k5, -, -⟩ := ih 4 dep [] noT i _ (by decide) hi (I0 4 _ _ (by omega)) q1
          have k3 := k3 (by decide) (by decide)
          have r := ih 3 dep [] (apT x a) j _ (by decide) k2 ⟨fun c => absurd c (by decide), fun _ => (hx.mono (by omega)).ap k5, fun c => absurd c (by decide)⟩ q2
          refine r.weak (by omega) (fun _ c => absurd rfl c) (fun _ => by decide) (Nat.le_refl _) ?_ ?_
          · show tmW x ≤ 1 + (tmW x + tmW a); omega
          · show csT x ≤ 2 + (csT x + csT a); omega
      · rw [if_neg c0] at h
        cases h
        exact TmR.map (Nat.le_refl _) hi (fun _ c => absurd rfl c) (fun _ => h0) hx (Nat.le_refl _) (Nat.le_refl _)
    · rw [ptm_4] at h
      rcases pLk_some h with ⟨c, e⟩ | ⟨h0, h⟩
      · exact bad _ i (Nat.le_refl _) hi e
      by_cases k4 : kdT t n i = 4
      · rw [if_pos k4] at h
        have hi2 := nx i h0 (by omega)
        rcases pLk_some h with ⟨c, e⟩ | ⟨h1, h⟩
        · exact bad _ (i + 1) (by omega) (by omega) e
        by_cases cl : z96 (kdT t n (i + 1)) ≠ 0 ∨ (10 ≤ kdT t n (i + 1) ∧ kdT t n (i + 1) ≤ 13 ∧ stT t n (i + 2) < n ∧ t (stT t n (i + 2)) = 41)
        · rw [if_pos cl] at h
          have hk : 10 ≤ kdT t n (i + 1) ∧ kdT t n (i + 1) ≤ 22 := by
            rcases cl with c | ⟨c1, c2, -⟩
            · have := z96_k c; omega
            · omega
          have hi3 := nx (i + 1) h1 (by omega)
          rcases pLk_some h with ⟨c, e⟩ | ⟨h2, h⟩
          · exact bad _ (i + 2) (by omega) (by omega) e
          by_cases k5 : kdT t n (i + 2) = 5
          · rw [if_pos k5] at h
            have hi4 := nx (i + 2) h2 (by omega)
            cases h
            exact TmR.map (by omega) (by omega) (fun _ _ => by omega) (fun c => absurd rfl c) (tmD.sg ⟨by omega, by omega⟩) (Nat.zero_le _) (Nat.zero_le _)
          · rw [if_neg k5] at h
            cases h
            exact bad 2 (i + 2) (by omega) (by omega) rfl
        rw [if_neg cl] at h
        by_cases d4 : 40 ≤ dep
        · rw [if_pos d4] at h
          cases h
          exact bad 8 (i + 1) (by omega) (by omega) rfl
        rw [if_neg d4] at h
        rcases pBd_some h with ⟨e, q1, q2⟩ | ⟨a, j, q1, q2⟩
        · have := ih 0 (dep + 1) [] noT (i + 1) _ (by decide) (by omega) (I0 0 _ _ (by omega)) q1
          exact bad e.1 e.2 (by have := this.1; omega) this.2 q2
        · obtain ⟨k1, k2, k3, g0, k5, -, -⟩ := ih 0 (dep + 1) [] noT (i + 1) _ (by decide) (by omega) (I0 0 _ _ (by omega)) q1
          have k1 : i + 1 ≤ j := k1
          have k2 : j ≤ 6000 := k2
          have k5 : tmD t n j (dep + 1) a := k5
          have g0 := g0 (by decide)
          unfold pIn at q2
          by_cases k6 : kdT t n j = 6
          · rw [if_pos k6] at q2
            have hj := nx j g0 (by omega)
            have hj2 : j + 1 ≤ 6000 := hj
            rcases pBd_some q2 with ⟨e, r1, r2⟩ | ⟨T, k, r1, r2⟩
            · have := (pty_le t n N 0 (dep + 1) (j + 1) _ (by decide) (fun c => absurd c (by decide)) hj2 r1).2 e.1 e.2 rfl
              exact bad e.1 e.2 (by omega) this.2 r2
            · have r3 := (pty_le t n N 0 (dep + 1) (j + 1) _ (by decide) (fun c => absurd c (by decide)) hj2 r1).1 T k rfl
              have r4 := pty0_ft t n N (dep + 1) (j + 1) T k r1
              have r5 := pty_nm t n N 0 (dep + 1) (j + 1) T k (by decide) (fun c => absurd c (by decide)) hj2 r1
              by_cases k7 : kdT t n k = 5
              · rw [if_pos k7] at r2
                have hk := nx k r4 (by omega)
                cases r2
                refine TmR.map (by omega) (by omega) (fun _ _ => by omega) (fun c => absurd rfl c) ⟨Or.inr (Or.inr ⟨rfl, tmOk.mono (by omega) a k5.1, nmOk.imp (fun q hq => ⟨by omega, hq.2⟩) T r5⟩), ?_⟩ (Nat.zero_le _) (Nat.zero_le _)
                have := k5.2
                show 1 + aHt a ≤ tmH a + (40 - dep)
                omega
              · rw [if_neg k7] at r2
                cases r2
                exact bad 2 k (by omega) r3.2 rfl
          rw [if_neg k6] at q2
          by_cases k7 : kdT t n j = 5
          · rw [if_pos k7] at q2
            have hj := nx j g0 (by omega)
            cases q2
            exact TmR.map (by omega) (by omega) (fun _ _ => by omega) (fun c => absurd rfl c) ⟨tmOk.mono (by omega) a k5.1, by have := k5.2; omega⟩ (Nat.zero_le _) (Nat.zero_le _)
          · rw [if_neg k7] at q2
            cases q2
            exact bad 2 j (by omega) k2 rfl
      rw [if_neg k4] at h
      by_cases k3 : kdT t n i = 3
      · rw [if_pos k3] at h
        have hi2 := nx i h0 (by omega)
        have hv := dgV_49 h0 k3
        cases h
        refine TmR.map (by omega) (by omega) (fun _ _ => by omega) (fun c => absurd rfl c) ⟨Or.inr (Or.inr ⟨rfl, ?_⟩), ?_⟩ (Nat.zero_le _) (Nat.zero_le _)
        · show (dgV t (n - stT t n i) (stT t n i) 0).toNat ≤ 49
          omega
        · show 1 ≤ (if (2 : Nat) = 2 then _ + 1 else 1) + _
          rw [if_pos rfl]
          omega
      rw [if_neg k3] at h
      by_cases k1 : kdT t n i = 1
      · rw [if_pos k1] at h
        have hi2 := nx i h0 (by omega)
        cases h
        exact TmR.map (by omega) (by omega) (fun _ _ => by omega) (fun c => absurd rfl c) ⟨Or.inl ⟨rfl, by show i < i + 1; omega, h0, k1⟩, by show 1 ≤ 1 + _; omega⟩ (Nat.zero_le _) (Nat.zero_le _)
      · rw [if_neg k1] at h
        cases h
        exact bad 2 i (Nat.le_refl _) hi rfl
    · rw [ptm_5] at h
      obtain ⟨hv, hx1, hx2⟩ := hI.2.2 (by decide)
      rcases pLk_some h with ⟨c, e⟩ | ⟨h0, h⟩
      · exact bad _ i (Nat.le_refl _) hi e
      by_cases k4 : kdT t n i = 4
      · rw [if_pos k4] at h
        have hi2 := nx i h0 (by omega)
        rcases pLk_some h with ⟨c, e⟩ | ⟨h1, h⟩
        · exact bad _ (i + 1) (by omega) (by omega) e
        by_cases k1 : kdT t n (i + 1) = 1
        · rw [if_pos k1] at h
          have hi3 := nx (i + 1) h1 (by omega)
          rcases pLk_some h with ⟨c, e⟩ | ⟨h2, h⟩
          · exact bad _ (i + 2) (by omega) (by omega) e
          by_cases k6 : kdT t n (i + 2) = 6
          · rw [if_pos k6] at h
            have hi4 := nx (i + 2) h2 (by omega)
            rcases pBd_some h with ⟨e, r1, r2⟩ | ⟨T, k, r1, r2⟩
            · have := (pty_le t n N 0 dep (i + 3) _ (by decide) (fun c => absurd c (by decide)) (by omega) r1).2 e.1 e.2 rfl
              exact bad e.1 e.2 (by omega) this.2 r2
            · have r3 := (pty_le t n N 0 dep (i + 3) _ (by decide) (fun c => absurd c (by decide)) (by omega) r1).1 T k rfl
              have r4 := pty0_ft t n N dep (i + 3) T k r1
              have r5 := pty_nm t n N 0 dep (i + 3) T k (by decide) (fun c => absurd c (by decide)) (by omega) r1
              by_cases k7 : kdT t n k = 5
              · rw [if_pos k7] at r2
                have hk := nx k r4 (by omega)
                have r := ih 6 dep ((i + 1, T) :: st) x (k + 1) _ (by decide) (by omega) ⟨fun c => absurd c (by decide), fun c => by omega, fun _ => ⟨fun q hq => ?_, hx1, hx2⟩⟩ r2
                · refine r.weak (by omega) (fun _ _ => Or.inl (by omega)) (fun _ => by decide) (Nat.le_refl _) ?_ ?_
                  · show st.length ≤ st.length + 1; omega
                  · show 2 * st.length ≤ 2 * (st.length + 1); omega
                · rcases List.mem_cons.mp hq with rfl | hq
                  · exact ⟨⟨by show i + 1 < k + 1; omega, h1, k1⟩, nmOk.imp (fun q hq => ⟨by omega, hq.2⟩) T r5⟩
                  · exact ⟨(hv q hq).1.mono (by omega), nmOk.imp (fun i r => r.mono (by omega)) _ (hv q hq).2⟩
              · rw [if_neg k7] at r2
                cases r2
                exact bad 2 k (by omega) r3.2 rfl
          · rw [if_neg k6] at h
            cases h
            exact bad 2 (i + 2) (by omega) (by omega) rfl
        · rw [if_neg k1] at h
          cases h
          exact bad 2 (i + 1) (by omega) (by omega) rfl
      rw [if_neg k4] at h
      by_cases k1 : kdT t n i = 1
      · rw [if_pos k1] at h
        have hi2 := nx i h0 (by omega)
        have r := ih 6 dep ((i, noT) :: st) x (i + 1) _ (by decide) (by omega) ⟨fun c => absurd c (by decide), fun c => by omega, fun _ => ⟨fun q hq => ?_, hx1, hx2⟩⟩ h
        · refine r.weak (by omega) (fun _ _ => Or.inl (by omega)) (fun _ => by decide) (Nat.le_refl _) ?_ ?_
          · show st.length ≤ st.length + 1; omega
          · show 2 * st.length ≤ 2 * (st.length + 1); omega
        · rcases List.mem_cons.mp hq with rfl | hq
          · exact ⟨⟨by show i < i + 1; omega, h0, k1⟩, trivial⟩
          · exact ⟨(hv q hq).1.mono (by omega), nmOk.imp (fun i r => r.mono (by omega)) _ (hv q hq).2⟩
      · rw [if_neg k1] at h
        cases h
        exact bad 2 i (Nat.le_refl _) hi rfl
    · rw [ptm_6] at h
      obtain ⟨hv, hx1, hx2⟩ := hI.2.2 (by decide)
      rcases pLk_some h with ⟨c, e⟩ | ⟨h0, h⟩
      · exact bad _ i (Nat.le_refl _) hi e
      by_cases c1 : kdT t n i = 1 ∨ kdT t n i = 4
      · rw [if_pos c1] at h
        have r := ih 5 dep st x i _ (by decide) hi ⟨fun c => absurd c (by decide), fun c => by omega, fun _ => ⟨hv, hx1, hx2⟩⟩ h
        exact r.weak (Nat.le_refl _) (fun _ _ => Or.inr ⟨by decide, by decide⟩) (fun _ => by decide) (Nat.le_refl _) (Nat.le_refl _) (Nat.le_refl _)
      rw [if_neg c1] at h
      by_cases k7 : kdT t n i = 7
      · rw [if_pos k7] at h
        have hi2 := nx i h0 (by omega)
        rcases pBd_some h with ⟨e, q1, q2⟩ | ⟨b, j, q1, q2⟩
        · have := ih 0 dep [] noT (i + 1) _ (by decide) (by omega) (I0 0 _ _ (by omega)) q1
          exact bad e.1 e.2 (by have := this.1; omega) this.2 q2
        · obtain ⟨k1, k2, k3, k4, k5, -, -⟩ := ih 0 dep [] noT (i + 1) _ (by decide) (by omega) (I0 0 _ _ (by omega)) q1
          have k1 : i + 1 ≤ j := k1
          cases q2
          have hw := bd_w (kOf x) st b
          exact TmR.map (by omega) k2 (fun _ _ => by omega) (fun _ => k4 (by decide)) (tmD.bd ⟨hx1, hx2⟩ st b (fun q hq => ⟨(hv q hq).1.mono (by omega), nmOk.imp (fun i r => r.mono (by omega)) _ (hv q hq).2⟩) k5) (by show st.length ≤ _; omega) (by show 2 * st.length ≤ _; omega)
      · rw [if_neg k7] at h
        cases h
        exact bad 2 i (Nat.le_refl _) hi rfl
def rkT (m : Nat) : Nat := if m = 0 then 2 else if m = 2 ∨ m = 3 ∨ m = 6 then 1 else 0
theorem I0D (t : Nat → Int) (n m dep i : Nat) (h : m = 0 ∨ m = 2 ∨ m = 4) : InD t n m dep [] noT i := ⟨fun _ q hq => absurd hq List.not_mem_nil, fun c => by omega, fun c => by omega⟩
/-- FUEL ENOUGH -/
theorem ptm_fuel (t : Nat → Int) (n : Nat) : ∀ (N m dep : Nat) (st : aSt) (x : aT) (i : Nat), m ≤ 6 → i ≤ 6000 → InD t n m dep st x i → 4 * (6001 - i) + rkT m ≤ N → ∃ q, ptm t n N m dep st x i = some q := by
  intro N
  induction N with
  | zero => intro m dep st x i _ hi _ h; exact absurd h (by omega)
  | succ N ih =>
    intro m dep st x i hm hi hI h
    have nx : ∀ q, ftT t n q = 0 → kdT t n q ≠ 0 → q < 6000 := fun q h0 hk => by
      have := kd_rng h0
      exact (ft0 h0 (by omega)).1
    have r0 : rkT 0 = 2 ∧ rkT 1 = 0 ∧ rkT 2 = 1 ∧ rkT 3 = 1 ∧ rkT 4 = 0 ∧ rkT 5 = 0 ∧ rkT 6 = 1 := by decide
    obtain ⟨r0, r1, r2, r3, r4, r5, r6⟩ := r0
    rcases (show m = 0 ∨ m = 1 ∨ m = 2 ∨ m = 3 ∨ m = 4 ∨ m = 5 ∨ m = 6 by omega) with rfl | rfl | rfl | rfl | rfl | rfl | rfl
    · rw [ptm_0]
      refine pLk_ex (fun h0 => pBd_ex (ih 2 dep [] noT i (by decide) hi (I0D _ _ _ _ _ (by omega)) (by omega)) (fun a j q1 => ?_))
      obtain ⟨k1, k2, k3, k4, k5, -, -⟩ := ptm_R t n N 2 dep [] noT i _ (by decide) hi (I0D _ _ _ _ _ (by omega)) q1
      have k3 : i < j := k3 (by decide) (by decide)
      exact ih 1 dep st a j (by decide) k2 ⟨fun _ => (hI.1 (by decide)).mono (by omega), fun _ => k5, fun c => absurd c (by decide)⟩ (by omega)
    · rw [ptm_1]
      refine pLk_ex (fun h0 => ?_)
      have hs := hI.1 (by decide)
      have hx := hI.2.1 (Or.inl rfl)
      by_cases c0 : z96 (kdT t n i) = 0
      · rw [if_pos c0]; exact ⟨_, rfl⟩
      rw [if_neg c0]
      by_cases c5 : z96 (kdT t n i) = 5 ∧ top5 (stl 5 st x).1 = true
      · rw [if_pos c5]; exact ⟨_, rfl⟩
      rw [if_neg c5]
      have hk := z96_k c0
      have hi2 := nx i h0 (by omega)
      obtain ⟨d1, d2⟩ := tmD.stl (z96 (kdT t n i)) st x hs hx
      refine ih 0 dep _ noT (i + 1) (by decide) (by omega) ⟨fun _ q hq => ?_, fun c => by omega, fun c => absurd c (by decide)⟩ (by omega)
      rcases List.mem_cons.mp hq with rfl | hq
      · exact ⟨⟨by show 14 ≤ (kdT t n i).toNat; omega, by show (kdT t n i).toNat ≤ 22; omega⟩, d2.mono (by omega)⟩
      · exact ⟨(d1 q hq).1, (d1 q hq).2.mono (by omega)⟩
    · rw [ptm_2]
      refine pLk_ex (fun h0 => ?_)
      by_cases k13 : kdT t n i = 13
      · rw [if_pos k13]
        have hi2 := nx i h0 (by omega)
        exact pBd_ex (ih 2 dep [] noT (i + 1) (by decide) (by omega) (I0D _ _ _ _ _ (by omega)) (by omega)) (fun _ _ _ => ⟨_, rfl⟩)
      rw [if_neg k13]
      by_cases k9 : z59 (kdT t n i) ≠ 0
      · rw [if_pos k9]
        have hk := z59_k k9
        have hi2 := nx i h0 (by omega)
        refine pLk_ex (fun h1 => ?_)
        by_cases d4 : 40 ≤ dep
        · rw [if_pos d4]; exact ⟨_, rfl⟩
        rw [if_neg d4]
        exact ih 5 (dep + 1) [] (sgT (kdT t n i).toNat) (i + 1) (by decide) (by omega) ⟨fun c => absurd c (by decide), fun c => by omega, fun _ => ⟨fun q hq => absurd hq List.not_mem_nil, by show 9 ≤ (kdT t n i).toNat; omega, by show (kdT t n i).toNat ≤ 12; omega⟩⟩ (by omega)
      rw [if_neg k9]
      refine pBd_ex (ih 4 dep [] noT i (by decide) hi (I0D _ _ _ _ _ (by omega)) (by omega)) (fun a j q1 => ?_)
      obtain ⟨k1, k2, k3, k4, k5, -, -⟩ := ptm_R t n N 4 dep [] noT i _ (by decide) hi (I0D _ _ _ _ _ (by omega)) q1
      have k3 : i < j := k3 (by decide) (by decide)
      exact ih 3 dep [] a j (by decide) k2 ⟨fun c => absurd c (by decide), fun _ => k5, fun c => absurd c (by decide)⟩ (by omega)
    · rw [ptm_3]
      refine pLk_ex (fun h0 => ?_)
      have hx := hI.2.1 (Or.inr rfl)
      by_cases c0 : z102 (kdT t n i) ≠ 0
      · rw [if_pos c0]
        refine pBd_ex (ih 4 dep [] noT i (by decide) hi (I0D _ _ _ _ _ (by omega)) (by omega)) (fun a j q1 => ?_)
        obtain ⟨k1, k2, k3, k4, k5, -, -⟩ := ptm_R t n N 4 dep [] noT i _ (by decide) hi (I0D _ _ _ _ _ (by omega)) q1
        have k3 : i < j := k3 (by decide) (by decide)
        exact ih 3 dep [] (apT x a) j (by decide) k2 ⟨fun c => absurd c (by decide), fun _ => (hx.mono (by omega)).ap k5, fun c => absurd c (by decide)⟩ (by omega)
      · rw [if_neg c0]; exact ⟨_, rfl⟩
    · rw [ptm_4]
      refine pLk_ex (fun h0 => ?_)
      by_cases k4 : kdT t n i = 4
      · rw [if_pos k4]
        have hi2 := nx i h0 (by omega)
        refine pLk_ex (fun h1 => ?_)
        by_cases cl : z96 (kdT t n (i + 1)) ≠ 0 ∨ (10 ≤ kdT t n (i + 1) ∧ kdT t n (i + 1) ≤ 13 ∧ stT t n (i + 2) < n ∧ t (stT t n (i + 2)) = 41)
        · rw [if_pos cl]
          refine pLk_ex (fun h2 => ?_)
          split <;> exact ⟨_, rfl⟩
        rw [if_neg cl]
        by_cases d4 : 40 ≤ dep
        · rw [if_pos d4]; exact ⟨_, rfl⟩
        rw [if_neg d4]
        refine pBd_ex (ih 0 (dep + 1) [] noT (i + 1) (by decide) (by omega) (I0D _ _ _ _ _ (by omega)) (by omega)) (fun a j q1 => ?_)
        obtain ⟨k1, k2, k3, g0, k5, -, -⟩ := ptm_R t n N 0 (dep + 1) [] noT (i + 1) _ (by decide) (by omega) (I0D _ _ _ _ _ (by omega)) q1
        have k1 : i + 1 ≤ j := k1
        have g0 : ftT t n j = 0 := g0 (by decide)
        unfold pIn
        by_cases k6 : kdT t n j = 6
        · rw [if_pos k6]
          have hj := nx j g0 (by omega)
          have hj2 : j + 1 ≤ 6000 := hj
          refine pBd_ex (pty_fuel t n N 0 (dep + 1) (j + 1) (by decide) (fun c => absurd c (by decide)) hj2 (by rw [if_neg (by decide), if_pos rfl]; omega)) (fun T k _ => ?_)
          split <;> exact ⟨_, rfl⟩
        · rw [if_neg k6]
          split <;> exact ⟨_, rfl⟩
      rw [if_neg k4]
      split
      · exact ⟨_, rfl⟩
      · split <;> exact ⟨_, rfl⟩
    · rw [ptm_5]
      obtain ⟨hv, hx1, hx2⟩ := hI.2.2 (by decide)
      refine pLk_ex (fun h0 => ?_)
      by_cases k4 : kdT t n i = 4
      · rw [if_pos k4]
        have hi2 := nx i h0 (by omega)
        refine pLk_ex (fun h1 => ?_)
        by_cases k1 : kdT t n (i + 1) = 1
        · rw [if_pos k1]
          have hi3 := nx (i + 1) h1 (by omega)
          refine pLk_ex (fun h2 => ?_)
          by_cases k6 : kdT t n (i + 2) = 6
          · rw [if_pos k6]
            have hi4 := nx (i + 2) h2 (by omega)
            refine pBd_ex (pty_fuel t n N 0 dep (i + 3) (by decide) (fun c => absurd c (by decide)) (by omega) (by rw [if_neg (by decide), if_pos rfl]; omega)) (fun T k q1 => ?_)
            have r3 := (pty_le t n N 0 dep (i + 3) _ (by decide) (fun c => absurd c (by decide)) (by omega) q1).1 T k rfl
            have r4 := pty0_ft t n N dep (i + 3) T k q1
            have r5 := pty_nm t n N 0 dep (i + 3) T k (by decide) (fun c => absurd c (by decide)) (by omega) q1
            by_cases k7 : kdT t n k = 5
            · rw [if_pos k7]
              have hk := nx k r4 (by omega)
              refine ih 6 dep ((i + 1, T) :: st) x (k + 1) (by decide) (by omega) ⟨fun c => absurd c (by decide), fun c => by omega, fun _ => ⟨fun q hq => ?_, hx1, hx2⟩⟩ (by omega)
              rcases List.mem_cons.mp hq with rfl | hq
              · exact ⟨⟨by show i + 1 < k + 1; omega, h1, k1⟩, nmOk.imp (fun q hq => ⟨by omega, hq.2⟩) T r5⟩
              · exact ⟨(hv q hq).1.mono (by omega), nmOk.imp (fun i r => r.mono (by omega)) _ (hv q hq).2⟩
            · rw [if_neg k7]; exact ⟨_, rfl⟩
          · rw [if_neg k6]; exact ⟨_, rfl⟩
        · rw [if_neg k1]; exact ⟨_, rfl⟩
      rw [if_neg k4]
      by_cases k1 : kdT t n i = 1
      · rw [if_pos k1]
        have hi2 := nx i h0 (by omega)
        refine ih 6 dep ((i, noT) :: st) x (i + 1) (by decide) (by omega) ⟨fun c => absurd c (by decide), fun c => by omega, fun _ => ⟨fun q hq => ?_, hx1, hx2⟩⟩ (by omega)
        rcases List.mem_cons.mp hq with rfl | hq
        · exact ⟨⟨by show i < i + 1; omega, h0, k1⟩, trivial⟩
        · exact ⟨(hv q hq).1.mono (by omega), nmOk.imp (fun i r => r.mono (by omega)) _ (hv q hq).2⟩
      · rw [if_neg k1]; exact ⟨_, rfl⟩
    · rw [ptm_6]
      obtain ⟨hv, hx1, hx2⟩ := hI.2.2 (by decide)
      refine pLk_ex (fun h0 => ?_)
      by_cases c1 : kdT t n i = 1 ∨ kdT t n i = 4
      · rw [if_pos c1]
        exact ih 5 dep st x i (by decide) hi ⟨fun c => absurd c (by decide), fun c => by omega, fun _ => ⟨hv, hx1, hx2⟩⟩ (by omega)
      rw [if_neg c1]
      by_cases k7 : kdT t n i = 7
      · rw [if_pos k7]
        have hi2 := nx i h0 (by omega)
        exact pBd_ex (ih 0 dep [] noT (i + 1) (by decide) (by omega) (I0D _ _ _ _ _ (by omega)) (by omega)) (fun _ _ _ => ⟨_, rfl⟩)
      · rw [if_neg k7]; exact ⟨_, rfl⟩
theorem pBd_lk (t : Nat → Int) (n i : Nat) (r : aPr) (k : aT → Nat → aPr) : pBd (pLk t n i r) k = pLk t n i (pBd r k) := by
  unfold pLk
  split <;> rfl
theorem pBd_ite (c : Prop) [Decidable c] (a b : aPr) (k : aT → Nat → aPr) : pBd (if c then a else b) k = if c then pBd a k else pBd b k := by
  split <;> rfl
theorem pBd_bd (r : aPr) (f k : aT → Nat → aPr) : pBd (pBd r f) k = pBd r (fun a j => pBd (f a j) k) := by
  cases r with
  | none => rfl
  | some q => cases q <;> rfl
/-- a binder's variable: its type -/
def pvr (t : Nat → Int) (n N dep i : Nat) : aPr := pLk t n i (if kdT t n i = 4 then pLk t n (i + 1) (if kdT t n (i + 1) = 1 then pLk t n (i + 2) (if kdT t n (i + 2) = 6 then pBd (pty t n N 0 dep (i + 3)) (fun T j => if kdT t n j = 5 then some (.inr (T, j + 1)) else some (.inl (2, j))) else some (.inl (2, i + 2))) else some (.inl (2, i + 1))) else if kdT t n i = 1 then some (.inr (noT, i + 1)) else some (.inl (2, i)))
/-- its token -/
def vtk (t : Nat → Int) (n i : Nat) : Nat := if kdT t n i = 4 then i + 1 else i
theorem ptm_5v (t : Nat → Int) (n N dep : Nat) (st : aSt) (x : aT) (i : Nat) : ptm t n (N + 1) 5 dep st x i = pBd (pvr t n N dep i) (fun T j => ptm t n N 6 dep ((vtk t n i, T) :: st) x j) := by
  rw [ptm_5]
  unfold pvr vtk
  rw [pBd_lk]
  congr 1
  by_cases c : kdT t n i = 4
  · rw [if_pos c, if_pos c, pBd_lk]
    congr 1
    rw [pBd_ite, pBd_lk, pBd_ite, pBd_bd]
    congr 1
    congr 1
    congr 1
    congr 1
    funext T j
    rw [pBd_ite, if_pos c]
    rfl
  · rw [if_neg c, if_neg c, pBd_ite, if_neg c]
    rfl
/-- what a variable is like -/
theorem pvr_R {t : Nat → Int} {n N dep i : Nat} {T : aT} {j : Nat} (hi : i ≤ 6000) (h : pvr t n N dep i = some (.inr (T, j))) : i < j ∧ j ≤ 6000 ∧ vtk t n i + 1 ≤ j ∧ i ≤ vtk t n i ∧ tkN t n j (vtk t n i) ∧ nmOk (tkN t n j) T := by
  have nx : ∀ q, ftT t n q = 0 → kdT t n q ≠ 0 → q < 6000 := fun q h0 hk => by
    have := kd_rng h0
    exact (ft0 h0 (by omega)).1
  unfold pvr at h
  rcases pLk_some h with ⟨-, e⟩ | ⟨h0, h⟩
  · cases e
  unfold vtk
  by_cases k4 : kdT t n i = 4
  · rw [if_pos k4] at h ⊢
    have hi2 := nx i h0 (by omega)
    rcases pLk_some h with ⟨-, e⟩ | ⟨h1, h⟩
    · cases e
    by_cases k1 : kdT t n (i + 1) = 1
    · rw [if_pos k1] at h
      have hi3 := nx (i + 1) h1 (by omega)
      rcases pLk_some h with ⟨-, e⟩ | ⟨h2, h⟩
      · cases e
      by_cases k6 : kdT t n (i + 2) = 6
      · rw [if_pos k6] at h
        have hi4 := nx (i + 2) h2 (by omega)
        rcases pBd_some h with ⟨e, r1, r2⟩ | ⟨Ty, k, r1, r2⟩
        · cases r2
        · have r3 := (pty_le t n N 0 dep (i + 3) _ (by decide) (fun c => absurd c (by decide)) (by omega) r1).1 Ty k rfl
          have r4 := pty0_ft t n N dep (i + 3) Ty k r1
          have r5 := pty_nm t n N 0 dep (i + 3) Ty k (by decide) (fun c => absurd c (by decide)) (by omega) r1
          by_cases k7 : kdT t n k = 5
          · rw [if_pos k7] at r2
            have hk := nx k r4 (by omega)
            cases r2
            exact ⟨by omega, by omega, by omega, by omega, ⟨by omega, h1, k1⟩, nmOk.imp (fun q hq => ⟨by omega, hq.2⟩) _ r5⟩
          · rw [if_neg k7] at r2
            cases r2
      · rw [if_neg k6] at h
        cases h
    · rw [if_neg k1] at h
      cases h
  · rw [if_neg k4] at h ⊢
    by_cases k1 : kdT t n i = 1
    · rw [if_pos k1] at h
      have hi2 := nx i h0 (by omega)
      cases h
      exact ⟨by omega, by omega, by omega, by omega, ⟨by omega, h0, k1⟩, trivial⟩
    · rw [if_neg k1] at h
      cases h
