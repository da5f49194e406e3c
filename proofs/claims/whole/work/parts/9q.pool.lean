/-! POOLS OF TYPES: what their nodes can stand for -/
/-- parent, code, first, second -/
abbrev aPl : Type := (Nat → Nat) × (Nat → Int) × (Nat → Int) × (Nat → Int)
def ptT (v : Nat → aT) (x : Int) : aT := if x < 0 then cNo else v x.toNat
/-- the valuations of a pool with P nodes; un: the code of an unknown type -/
def Vl (un : Int) (P : Nat) (A : aPl) (v : Nat → aT) : Prop := ∀ k, k < P → v k = v (A.1 k) ∧ (A.2.1 k ≠ un → v k = .branch (enc (A.2.1 k)) (ptT v (A.2.2.1 k)) (ptT v (A.2.2.2 k)))
/-- how many speak for themselves -/
def nR (P : Nat) (A : aPl) : Nat := (List.range P).countP (fun k => decide (A.1 k = k))
/-- chains of parents end: rt their ends, u their lengths at most -/
def Uf (P : Nat) (A : aPl) (rt u : Nat → Nat) : Prop := ∀ k, k < P → A.1 k < P ∧ rt k < P ∧ A.1 (rt k) = rt k ∧ rt (A.1 k) = rt k ∧ (A.1 k = k → rt k = k ∧ u k = 0) ∧ (A.1 k ≠ k → u (A.1 k) < u k) ∧ u k + nR P A ≤ P
theorem ptT_n (v : Nat → aT) (x : Int) (h : x < 0) : ptT v x = cNo := if_pos h
theorem ptT_p (v : Nat → aT) (x : Int) (h : 0 ≤ x) : ptT v x = v x.toNat := if_neg (by omega)
theorem Vl.root {un : Int} {P : Nat} {A : aPl} {rt u : Nat → Nat} {v : Nat → aT} (h : Vl un P A v) (hU : Uf P A rt u) : ∀ k, k < P → v k = v (rt k) := by
  have key : ∀ m k, u k ≤ m → k < P → v k = v (rt k) := by
    intro m
    induction m with
    | zero =>
      intro k hk hP
      obtain ⟨h1, h2, h3, h4, h5, h6, h7⟩ := hU k hP
      by_cases e : A.1 k = k
      · rw [(h5 e).1]
      · have := h6 e; omega
    | succ m ih =>
      intro k hk hP
      obtain ⟨h1, h2, h3, h4, h5, h6, h7⟩ := hU k hP
      by_cases e : A.1 k = k
      · rw [(h5 e).1]
      · have := h6 e
        rw [(h k hP).1, ih (A.1 k) (by omega) h1, h4]
  exact fun k hk => key (u k) k (Nat.le_refl _) hk
/-- two codes that differ -/
theorem Vl.clash {un : Int} {P : Nat} {A : aPl} {v : Nat → aT} (h : Vl un P A v) {a b : Nat} (ha : a < P) (hb : b < P) (ua : A.2.1 a ≠ un) (ub : A.2.1 b ≠ un) (ne : A.2.1 a ≠ A.2.1 b) (ra : -2000000 ≤ A.2.1 a) (rb : -2000000 ≤ A.2.1 b) : v a ≠ v b := by
  intro e
  rw [(h a ha).2 ua, (h b hb).2 ub] at e
  injection e with e1 _ _
  exact ne (by rw [← dec_enc ra, e1, dec_enc rb])
theorem Vl.parts {un : Int} {P : Nat} {A : aPl} {v : Nat → aT} (h : Vl un P A v) {a b : Nat} (ha : a < P) (hb : b < P) (ua : A.2.1 a ≠ un) (ub : A.2.1 b ≠ un) (e : v a = v b) : ptT v (A.2.2.1 a) = ptT v (A.2.2.1 b) ∧ ptT v (A.2.2.2 a) = ptT v (A.2.2.2 b) := by
  rw [(h a ha).2 ua, (h b hb).2 ub] at e
  injection e with _ e2 e3
  exact ⟨e2, e3⟩
/-- a root takes another as its parent -/
def lnP (A : aPl) (a b : Nat) : aPl := (fun k => if k = a then b else A.1 k, A.2)
theorem Vl.link {un : Int} {P : Nat} {A : aPl} {a b : Nat} (ha : a < P) (hr : A.1 a = a) (v : Nat → aT) : Vl un P (lnP A a b) v ↔ (Vl un P A v ∧ v a = v b) := by
  constructor
  · intro h
    refine ⟨fun k hk => ?_, ?_⟩
    · obtain ⟨h1, h2⟩ := h k hk
      refine ⟨?_, h2⟩
      by_cases e : k = a
      · rw [e, hr]
      · rw [show (lnP A a b).1 k = A.1 k from if_neg e] at h1
        exact h1
    · have h1 := (h a ha).1
      rw [show (lnP A a b).1 a = b from if_pos rfl] at h1
      exact h1
  · rintro ⟨h, hab⟩ k hk
    obtain ⟨h1, h2⟩ := h k hk
    refine ⟨?_, h2⟩
    by_cases e : k = a
    · rw [show (lnP A a b).1 k = b from if_pos e, e]
      exact hab
    · rw [show (lnP A a b).1 k = A.1 k from if_neg e]
      exact h1
theorem cnt_upd (p q : Nat → Bool) (a : Nat) (hpa : p a = true) (hqa : q a = false) (hne : ∀ k, k ≠ a → q k = p k) : ∀ P : Nat, a < P → (List.range P).countP q + 1 = (List.range P).countP p := by
  have below : ∀ P : Nat, P ≤ a → (List.range P).countP q = (List.range P).countP p := by
    intro P
    induction P with
    | zero => intro _; rfl
    | succ P ih =>
      intro h
      rw [List.range_succ, List.countP_append, List.countP_append, ih (by omega)]
      have : [P].countP q = [P].countP p := by
        rw [List.countP_singleton, List.countP_singleton, hne P (by omega)]
      rw [this]
  intro P
  induction P with
  | zero => intro h; exact absurd h (Nat.not_lt_zero _)
  | succ P ih =>
    intro h
    rw [List.range_succ, List.countP_append, List.countP_append]
    by_cases e : P = a
    · have b := below P (by omega)
      rw [b, List.countP_singleton, List.countP_singleton, e, hpa, hqa]
      simp
    · have i := ih (by omega)
      have : [P].countP q = [P].countP p := by
        rw [List.countP_singleton, List.countP_singleton, hne P e]
      rw [this]
      omega
theorem nR_link {P : Nat} {A : aPl} {a b : Nat} (ha : a < P) (hr : A.1 a = a) (hab : a ≠ b) : nR P (lnP A a b) + 1 = nR P A := by
  unfold nR
  refine cnt_upd _ _ a ?_ ?_ (fun k hk => ?_) P ha
  · exact decide_eq_true hr
  · exact decide_eq_false (by rw [show (lnP A a b).1 a = b from if_pos rfl]; exact fun e => hab e.symm)
  · rw [show (lnP A a b).1 k = A.1 k from if_neg hk]
theorem nR_pos {P : Nat} {A : aPl} {r : Nat} (hr : r < P) (h : A.1 r = r) : 1 ≤ nR P A := by
  unfold nR
  exact List.countP_pos_iff.mpr ⟨r, List.mem_range.mpr hr, decide_eq_true h⟩
def rtL (rt : Nat → Nat) (a b k : Nat) : Nat := if rt k = a then b else rt k
def uL (rt u : Nat → Nat) (a k : Nat) : Nat := if rt k = a then u k + 1 else u k
/-- the chains behind a new link -/
theorem Uf.link {P : Nat} {A : aPl} {rt u : Nat → Nat} {a b : Nat} (h : Uf P A rt u) (ha : a < P) (hb : b < P) (ra : A.1 a = a) (rb : A.1 b = b) (hab : a ≠ b) : Uf P (lnP A a b) (rtL rt a b) (uL rt u a) := by
  have hn := nR_link ha ra hab (A := A)
  have fa := (h a ha).2.2.2.2.1 ra
  have fb := (h b hb).2.2.2.2.1 rb
  have lb : (lnP A a b).1 b = b := (if_neg (fun q => hab q.symm)).trans rb
  have rbb : rtL rt a b b = b := (if_neg (by rw [fb.1]; exact fun q => hab q.symm)).trans fb.1
  have ubb : uL rt u a b = 0 := (if_neg (by rw [fb.1]; exact fun q => hab q.symm)).trans fb.2
  intro k hk
  obtain ⟨h1, h2, h3, h4, h5, h6, h7⟩ := h k hk
  by_cases e2 : rt k = a
  · have e3 : rtL rt a b k = b := if_pos e2
    have e4 : uL rt u a k = u k + 1 := if_pos e2
    rw [e3, e4]
    by_cases e : k = a
    · subst e
      have lk : (lnP A k b).1 k = b := if_pos rfl
      rw [lk, ubb]
      exact ⟨hb, hb, lb, rbb, fun q => absurd q.symm hab, fun _ => by omega, by omega⟩
    · have lk : (lnP A a b).1 k = A.1 k := if_neg e
      have e5 : rtL rt a b (A.1 k) = b := if_pos (h4.trans e2)
      have e6 : uL rt u a (A.1 k) = u (A.1 k) + 1 := if_pos (h4.trans e2)
      rw [lk, e5, e6]
      exact ⟨h1, hb, lb, rfl, fun q => absurd ((h5 q).1.symm.trans e2) e, fun q => by have := h6 q; omega, by omega⟩
  · have e : k ≠ a := fun q => e2 (by rw [q]; exact fa.1)
    have e3 : rtL rt a b k = rt k := if_neg e2
    have e4 : uL rt u a k = u k := if_neg e2
    have lk : (lnP A a b).1 k = A.1 k := if_neg e
    have e5 : rtL rt a b (A.1 k) = rt k := (if_neg (by rw [h4]; exact e2)).trans h4
    have e6 : uL rt u a (A.1 k) = u (A.1 k) := if_neg (by rw [h4]; exact e2)
    have lr : (lnP A a b).1 (rt k) = rt k := (if_neg e2).trans h3
    rw [e3, e4, lk, e5, e6]
    exact ⟨h1, h2, lr, rfl, h5, h6, by omega⟩
/-- a node's parent becomes its parent's -/
def hvP (A : aPl) (a : Nat) : aPl := (fun k => if k = a then A.1 (A.1 a) else A.1 k, A.2)
theorem Uf.hv {P : Nat} {A : aPl} {rt u : Nat → Nat} {a : Nat} (h : Uf P A rt u) (ha : a < P) (na : A.1 a ≠ a) : Uf P (hvP A a) rt u := by
  obtain ⟨a1, a2, a3, a4, a5, a6, a7⟩ := h a ha
  obtain ⟨b1, b2, b3, b4, b5, b6, b7⟩ := h (A.1 a) a1
  have ua := a6 na
  have upp : u (A.1 (A.1 a)) < u a := by
    by_cases e : A.1 (A.1 a) = A.1 a
    · rw [e]; exact ua
    · have := b6 e; omega
  have npp : A.1 (A.1 a) ≠ a := fun e => by rw [e] at upp; omega
  have hn : nR P (hvP A a) = nR P A := by
    unfold nR
    congr 1
    funext k
    by_cases e : k = a
    · subst e
      rw [show (hvP A k).1 k = A.1 (A.1 k) from if_pos rfl, decide_eq_false npp, decide_eq_false na]
    · rw [show (hvP A a).1 k = A.1 k from if_neg e]
  intro k hk
  obtain ⟨h1, h2, h3, h4, h5, h6, h7⟩ := h k hk
  rw [hn]
  have nrt : rt k ≠ a := fun e => na (by rw [e] at h3; exact h3)
  have lr : (hvP A a).1 (rt k) = rt k := (if_neg nrt).trans h3
  by_cases e : k = a
  · subst e
    have lk : (hvP A k).1 k = A.1 (A.1 k) := if_pos rfl
    rw [lk]
    exact ⟨b1, h2, lr, b4.trans a4, fun q => absurd q npp, fun _ => upp, h7⟩
  · have lk : (hvP A a).1 k = A.1 k := if_neg e
    rw [lk]
    exact ⟨h1, h2, lr, h4, h5, h6, h7⟩
theorem Vl.hv {un : Int} {P : Nat} {A : aPl} {rt u : Nat → Nat} {a : Nat} (h : Uf P A rt u) (ha : a < P) (na : A.1 a ≠ a) (v : Nat → aT) : Vl un P (hvP A a) v ↔ Vl un P A v := by
  obtain ⟨a1, a2, a3, a4, a5, a6, a7⟩ := h a ha
  have lp : (hvP A a).1 (A.1 a) = A.1 (A.1 a) := if_neg na
  have la : (hvP A a).1 a = A.1 (A.1 a) := if_pos rfl
  constructor
  · intro hv k hk
    obtain ⟨h1, h2⟩ := hv k hk
    refine ⟨?_, h2⟩
    by_cases e : k = a
    · subst e
      have q := (hv (A.1 k) a1).1
      rw [lp] at q
      rw [la] at h1
      exact h1.trans q.symm
    · rw [show (hvP A a).1 k = A.1 k from if_neg e] at h1
      exact h1
  · intro hv k hk
    obtain ⟨h1, h2⟩ := hv k hk
    refine ⟨?_, h2⟩
    by_cases e : k = a
    · subst e
      rw [la]
      exact h1.trans (hv (A.1 k) a1).1
    · rw [show (hvP A a).1 k = A.1 k from if_neg e]
      exact h1
