/-! THE READER MAKES TYPES EQUAL: one join -/
/-- the reader's pool, seen as such -/
def vwX (s : aZ) : aPl := (fun k => (zz s 21 k).toNat, fun k => zz s 18 k, fun k => zz s 19 k, fun k => zz s 20 k)
theorem vwX_of {s s2 : aZ} (h : ∀ k, 18 ≤ k → k ≤ 21 → ∀ j, zz s2 k j = zz s k j) : vwX s2 = vwX s := by
  unfold vwX
  refine Prod.ext (funext fun k => ?_) (Prod.ext (funext fun k => ?_) (Prod.ext (funext fun k => ?_) (funext fun k => ?_)))
  · show (zz s2 21 k).toNat = (zz s 21 k).toNat
    rw [h 21 (by decide) (by decide)]
  · exact h 18 (by decide) (by decide) k
  · exact h 19 (by decide) (by decide) k
  · exact h 20 (by decide) (by decide) k
theorem vwX_ln (s : aZ) (a b : Nat) (hb : b < 20000) : vwX (zu s 21 a (b : Int)) = lnP (vwX s) a b := by
  unfold vwX lnP
  refine Prod.ext (funext fun k => ?_) (Prod.ext (funext fun k => ?_) (Prod.ext (funext fun k => ?_) (funext fun k => ?_)))
  · show (zz (zu s 21 a (b : Int)) 21 k).toNat = if k = a then b else (zz s 21 k).toNat
    by_cases e : k = a
    · rw [if_pos e, e, zz_same _ _ _ ⟨by omega, by omega⟩, natc]
    · rw [if_neg e, zz_ne _ _ _ _ _ _ (by omega)]
  · exact zz_ne _ _ _ _ _ _ (by omega)
  · exact zz_ne _ _ _ _ _ _ (by omega)
  · exact zz_ne _ _ _ _ _ _ (by omega)
theorem vwX_hv (s : aZ) (a : Nat) : vwX (hvS s a) = hvP (vwX s) a := by
  unfold vwX hvP hvS
  refine Prod.ext (funext fun k => ?_) (Prod.ext (funext fun k => ?_) (Prod.ext (funext fun k => ?_) (funext fun k => ?_)))
  · show (zz (zu s 21 a (zz s 21 (zz s 21 a).toNat)) 21 k).toNat = if k = a then (zz s 21 (zz s 21 a).toNat).toNat else (zz s 21 k).toNat
    by_cases e : k = a
    · rw [if_pos e, e, zz_same _ _ _ (inR_zz _ _ _)]
    · rw [if_neg e, zz_ne _ _ _ _ _ _ (by omega)]
  · exact zz_ne _ _ _ _ _ _ (by omega)
  · exact zz_ne _ _ _ _ _ _ (by omega)
  · exact zz_ne _ _ _ _ _ _ (by omega)
/-- halving keeps chains, ends and valuations -/
theorem Hv.uf {P : Nat} {s s2 : aZ} (a : Hv P s s2) {rt u : Nat → Nat} (h : Uf P (vwX s) rt u) (hp : PP P s) : Uf P (vwX s2) rt u ∧ PP P s2 ∧ (∀ un v, Vl un P (vwX s2) v ↔ Vl un P (vwX s) v) ∧ nR P (vwX s2) = nR P (vwX s) := by
  refine a (fun s2 => Uf P (vwX s2) rt u ∧ PP P s2 ∧ (∀ un v, Vl un P (vwX s2) v ↔ Vl un P (vwX s) v) ∧ nR P (vwX s2) = nR P (vwX s)) (fun s3 k hk hne h3 => ?_) ⟨h, hp, fun _ _ => Iff.rfl, rfl⟩
  obtain ⟨h1, h2, h3, h4⟩ := h3
  have hk2 := h2 k hk
  have na : (vwX s3).1 k ≠ k := fun e => hne (by
    have e' : (zz s3 21 k).toNat = k := e
    omega)
  rw [vwX_hv]
  refine ⟨h1.hv hk na, h2.hv hk, fun un v => (Vl.hv h1 hk na v).trans (h3 un v), ?_⟩
  rw [← h4]
  unfold nR
  congr 1
  funext j
  by_cases e : j = k
  · subst e
    have b1 := (h1 _ hk).1
    have ua := (h1 _ hk).2.2.2.2.2.1 na
    have npp : (vwX s3).1 ((vwX s3).1 j) ≠ j := fun e2 => by
      by_cases e3 : (vwX s3).1 ((vwX s3).1 j) = (vwX s3).1 j
      · exact na (e3.symm.trans e2)
      · have := (h1 _ b1).2.2.2.2.2.1 e3
        rw [e2] at this
        omega
    rw [show (hvP (vwX s3) j).1 j = (vwX s3).1 ((vwX s3).1 j) from if_pos rfl, decide_eq_false npp, decide_eq_false na]
  · rw [show (hvP (vwX s3) k).1 j = (vwX s3).1 j from if_neg e]
/-- find answers the end of the chain -/
theorem x_findU {d : Nat} {B : aH} (hB : a_Can B) (l : aZL) (P : Nat) (hP : P ≤ 17000) (x : Nat) (s : aZ) (hx : x < P) (hs : PP P s) {rt u : Nat → Nat} (hU : Uf P (vwX s) rt u) : a_W d 51 0 [.ref 17, iv (x : Int), .retAddr 0, .retAddr 0] [] (mkH B s l) (fun q => ∃ s2, q = (.inl (some (iv ((rt x : Nat) : Int))), mkH B s2 l) ∧ Hv P s s2) := by
  refine a_W.imp (x_find hB l P hP x s hx hs) ?_
  rintro _ ⟨s2, r, rfl, f1, f2, f3, f4, f5⟩
  have hur := (hU x hx)
  have hn := nR_pos hur.2.1 hur.2.2.1
  have h1 : zz s2 21 r = r := f4 u (fun j hj hne => by
    have hj2 := hs j hj
    exact (hU j hj).2.2.2.2.2.1 (fun e => hne (by
      have e' : (zz s 21 j).toNat = j := e
      omega))) (by have := hur.2.2.2.2.2.2; omega)
  have h2 : rt r = rt x := f5 (fun j => rt j = rt x) (fun j hj h => ((hU j hj).2.2.2.1).trans h) rfl
  obtain ⟨g1, g2, g3, g4⟩ := f2.uf hU hs
  have h3 : rt r = r := ((g1 r f1).2.2.2.2.1 (by show (zz s2 21 r).toNat = r; omega)).1
  refine ⟨s2, ?_, f2⟩
  rw [← h2, h3]
/-- codes in their range; those of one code have as many parts -/
def CdP (un : Int) (ar : Int → Nat) (P : Nat) (A : aPl) : Prop := RgP P A ∧ ∀ k, k < P → (A.2.1 k ≠ un → (0 ≤ A.2.2.1 k ↔ 1 ≤ ar (A.2.1 k)) ∧ (0 ≤ A.2.2.2 k ↔ 2 ≤ ar (A.2.1 k))) ∧ (A.2.1 k = un → A.2.2.1 k < 0 ∧ A.2.2.2 k < 0)
/-- closed, if what waits is made equal -/
def PCl (un : Int) (P : Nat) (A : aPl) (rt : Nat → Nat) (W : List Nat) : Prop := (∀ k, k < P → A.2.1 k ≠ un → A.2.1 (rt k) = A.2.1 k) ∧ ∀ c : Nat → Nat, (∀ k, k < P → c k = c (A.1 k)) → (∀ a ∈ W, prt c (A.2.2.1 a) = prt c (A.2.2.1 (rt a)) ∧ prt c (A.2.2.2 a) = prt c (A.2.2.2 (rt a))) → ∀ k, k < P → A.2.1 k ≠ un → prt c (A.2.2.1 k) = prt c (A.2.2.1 (rt k)) ∧ prt c (A.2.2.2 k) = prt c (A.2.2.2 (rt k))
theorem PCl.cl {un : Int} {P : Nat} {A : aPl} {rt u : Nat → Nat} (h : PCl un P A rt []) (hU : Uf P A rt u) : ClP un P A rt := fun k hk hc => ⟨h.1 k hk hc, h.2 rt (fun k hk => (hU k hk).2.2.2.1.symm) (fun a ha => absurd ha List.not_mem_nil) k hk hc⟩
theorem ClP.pcl {un : Int} {P : Nat} {A : aPl} {rt u : Nat → Nat} (h : ClP un P A rt) (hU : Uf P A rt u) (hR : RgP P A) (W : List Nat) : PCl un P A rt W := by
  refine ⟨fun k hk hc => (h k hk hc).1, fun c hc _ k hk hck => ?_⟩
  have croot : ∀ m k, u k ≤ m → k < P → c k = c (rt k) := by
    intro m
    induction m with
    | zero =>
      intro k hk hP
      by_cases e : A.1 k = k
      · rw [((hU k hP).2.2.2.2.1 e).1]
      · have := (hU k hP).2.2.2.2.2.1 e; omega
    | succ m ih =>
      intro k hk hP
      by_cases e : A.1 k = k
      · rw [((hU k hP).2.2.2.2.1 e).1]
      · have := (hU k hP).2.2.2.2.2.1 e
        rw [hc k hP, ih (A.1 k) (by omega) (hU k hP).1, (hU k hP).2.2.2.1]
  have cr : ∀ x : Int, -1 ≤ x → x < P → prt c x = if x < 0 then -1 else ((c (rt x.toNat) : Nat) : Int) := fun x h1 h2 => by
    unfold prt
    by_cases e : x < 0
    · rw [if_pos e, if_pos e]
    · rw [if_neg e, if_neg e, croot _ x.toNat (Nat.le_refl _) (by omega)]
  have tr : ∀ x y : Int, (-1 ≤ x ∧ x < P) → (-1 ≤ y ∧ y < P) → prt rt x = prt rt y → prt c x = prt c y := fun x y hx hy hxy => by
    rw [cr x hx.1 hx.2, cr y hy.1 hy.2]
    unfold prt at hxy
    by_cases e1 : x < 0
    · rw [if_pos e1] at hxy
      by_cases e2 : y < 0
      · rw [if_pos e1, if_pos e2]
      · rw [if_neg e2] at hxy; omega
    · rw [if_neg e1] at hxy
      by_cases e2 : y < 0
      · rw [if_pos e2] at hxy; omega
      · rw [if_neg e2] at hxy
        rw [if_neg e1, if_neg e2, show rt x.toNat = rt y.toNat by omega]
  obtain ⟨g1, g2, g3⟩ := h k hk hck
  obtain ⟨r1, r2, -⟩ := hR k hk
  obtain ⟨q1, q2, -⟩ := hR (rt k) (hU k hk).2.1
  exact ⟨tr _ _ r1 q1 g2, tr _ _ r2 q2 g3⟩
/-- an unknown root is linked -/
theorem PCl.linkU {un : Int} {P : Nat} {A : aPl} {rt u : Nat → Nat} {W : List Nat} {a b : Nat} (h : PCl un P A rt W) (hU : Uf P A rt u) (ha : a < P) (ra : A.1 a = a) (ca : A.2.1 a = un) (hW : ∀ x ∈ W, x < P ∧ A.2.1 x ≠ un) : PCl un P (lnP A a b) (rtL rt a b) W := by
  have nr : ∀ k, k < P → A.2.1 k ≠ un → rt k ≠ a := fun k hk hc e => hc (by rw [← h.1 k hk hc, e, ca])
  have er : ∀ k, k < P → A.2.1 k ≠ un → rtL rt a b k = rt k := fun k hk hc => if_neg (nr k hk hc)
  refine ⟨fun k hk hc => ?_, fun c hc hw k hk hck => ?_⟩
  · rw [er k hk hc]; exact h.1 k hk hc
  · rw [er k hk hck]
    refine h.2 c (fun k hk => ?_) (fun x hx => ?_) k hk hck
    · by_cases e : k = a
      · rw [e, ra]
      · have := hc k hk
        rw [show (lnP A a b).1 k = A.1 k from if_neg e] at this
        exact this
    · have := hw x hx
      rw [er x (hW x hx).1 (hW x hx).2] at this
      exact this
/-- a known root is linked to one of its code -/
theorem PCl.linkK {un : Int} {P : Nat} {A : aPl} {rt u : Nat → Nat} {W W2 : List Nat} {a b : Nat} (h : PCl un P A rt W) (hU : Uf P A rt u) (ha : a < P) (hb : b < P) (ra : A.1 a = a) (rb : A.1 b = b) (hab : a ≠ b) (ca : A.2.1 a ≠ un) (cab : A.2.1 a = A.2.1 b) (hW : ∀ x ∈ W, x ∈ W2) (hW2 : a ∈ W2 ∨ (A.2.2.1 a < 0 ∧ A.2.2.2 a < 0 ∧ A.2.2.1 b < 0 ∧ A.2.2.2 b < 0)) : PCl un P (lnP A a b) (rtL rt a b) W2 := by
  have fa := ((hU a ha).2.2.2.2.1 ra).1
  have fb := ((hU b hb).2.2.2.2.1 rb).1
  refine ⟨fun k hk hc => ?_, fun c hc hw k hk hck => ?_⟩
  · by_cases e : rt k = a
    · rw [show rtL rt a b k = b from if_pos e]
      show A.2.1 b = A.2.1 k
      rw [← cab, ← e]
      exact h.1 k hk hc
    · rw [show rtL rt a b k = rt k from if_neg e]
      exact h.1 k hk hc
  · have hcab : prt c (A.2.2.1 a) = prt c (A.2.2.1 b) ∧ prt c (A.2.2.2 a) = prt c (A.2.2.2 b) := by
      rcases hW2 with h2 | ⟨h1, h2, h3, h4⟩
      · have := hw a h2
        rw [show rtL rt a b a = b from if_pos fa] at this
        exact this
      · unfold prt
        rw [if_pos h1, if_pos h2, if_pos h3, if_pos h4]
        exact ⟨rfl, rfl⟩
    have old := h.2 c (fun k hk => by
      by_cases e : k = a
      · rw [e, ra]
      · have := hc k hk
        rw [show (lnP A a b).1 k = A.1 k from if_neg e] at this
        exact this) (fun x hx => by
      have := hw x (hW x hx)
      by_cases e : rt x = a
      · rw [show rtL rt a b x = b from if_pos e] at this
        rw [e]
        exact ⟨this.1.trans hcab.1.symm, this.2.trans hcab.2.symm⟩
      · rw [show rtL rt a b x = rt x from if_neg e] at this
        exact this) k hk hck
    by_cases e : rt k = a
    · rw [show rtL rt a b k = b from if_pos e]
      rw [e] at old
      exact ⟨old.1.trans hcab.1, old.2.trans hcab.2⟩
    · rw [show rtL rt a b k = rt k from if_neg e]
      exact old
