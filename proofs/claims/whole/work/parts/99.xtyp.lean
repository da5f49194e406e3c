/-! THE READER READS A TYPE -/
def sumW : List aT → Nat
  | [] => 0
  | T :: ts => tyW T + sumW ts
def maxH : List aT → Nat
  | [] => 0
  | T :: ts => max (tyH T) (maxH ts)
theorem accF_c (T : aT) (ts : List aT) (R : aT) : accF (T :: ts) R = accF ts (.branch 2 T R) := rfl
theorem accF_W : ∀ (ts : List aT) (R : aT), tyW (accF ts R) = sumW ts + tyW R := by
  intro ts
  induction ts with
  | nil => intro R; exact (Nat.zero_add _).symm
  | cons T ts ih =>
    intro R
    rw [accF_c, ih, tyW_b, if_pos rfl]
    show _ = tyW T + sumW ts + tyW R
    omega
theorem accF_H : ∀ (ts : List aT) (R : aT), tyH (accF ts R) = max (maxH ts) (tyH R) := by
  intro ts
  induction ts with
  | nil =>
    intro R
    show tyH R = max 0 (tyH R)
    omega
  | cons T ts ih =>
    intro R
    rw [accF_c, ih, tyH_b, if_pos rfl]
    show _ = max (max (tyH T) (maxH ts)) (tyH R)
    omega
theorem accF_N : ∀ (ts : List aT) (R : aT), argN (accF ts R) = ts.length + argN R := by
  intro ts
  induction ts with
  | nil => intro R; exact (Nat.zero_add _).symm
  | cons T ts ih =>
    intro R
    rw [accF_c, ih, List.length_cons]
    show ts.length + (argN R + 1) = _
    omega
section
variable {B : aH} {t : Nat → Int} {n : Nat} {ns tn : List (List Int)} {ta : List Int}
def anyB (t : Nat → Int) (n : Nat) (tn : List (List Int)) (ta : List Int) : List aT → Bool
  | [] => false
  | T :: ts => anyB t n tn ta ts || tyBad t n tn ta T
theorem accF_B : ∀ (ts : List aT) (R : aT), tyBad t n tn ta (accF ts R) = (anyB t n tn ta ts || tyBad t n tn ta R) := by
  intro ts
  induction ts with
  | nil => intro R; exact (Bool.false_or _).symm
  | cons T ts ih =>
    intro R
    rw [accF_c, ih]
    have e : tyBad t n tn ta (.branch 2 T R) = (tyBad t n tn ta T || tyBad t n tn ta R) := by
      show ((decide (2 % 4 = 1) && !gdN t n tn ta (2 / 4) (argN T)) || tyBad t n tn ta T || tyBad t n tn ta R) = _
      rw [show decide (2 % 4 = 1) = false from rfl, Bool.false_and, Bool.false_or]
    rw [e]
    show (anyB t n tn ta ts || (tyBad t n tn ta T || tyBad t n tn ta R)) = (anyB t n tn ta ts || tyBad t n tn ta T || tyBad t n tn ta R)
    rw [Bool.or_assoc]
theorem ixn_rng (ns : List (List Int)) (nm : List Int) : 0 ≤ ixn ns nm ∧ ixn ns nm ≤ ns.length := by
  unfold ixn
  rcases fd_cases ns nm ns.length with ⟨h, -⟩ | ⟨i, hi, h, -⟩
  · rw [h, if_pos (by decide)]; omega
  · rw [h, if_neg (by omega)]; omega
theorem fd_rng (ns : List (List Int)) (nm : List Int) : -1 ≤ fd ns nm ns.length ∧ fd ns nm ns.length < (ns.length : Int) := by
  rcases fd_cases ns nm ns.length with ⟨h, -⟩ | ⟨i, hi, h, -⟩
  · rw [h]; omega
  · rw [h]; omega
theorem PN.y {P : Nat} {c one other : Int} {s s2 : aZ} (hP : P < 17000) (hc : inR c) (h1 : -1 ≤ one ∧ one < P) (h2 : -1 ≤ other ∧ other < P) (hS : PS P s) (h : PN P c one other s s2) (hF : c = 2 → 0 ≤ one ∧ 0 ≤ other := by omega) : FrY s s2 ∧ (∀ k, k ≤ 7 → s2 k = s k) ∧ s2 37 = s 37 ∧ s2 36 = s 36 := by
  obtain ⟨k1, k2, k3, k4, k5⟩ := h.facts hP hc h1 h2 hS hF
  exact ⟨⟨fun k _ _ _ _ _ _ g _ _ => k2 k (by omega) (by omega), fun j _ => zz_of (k2 1 (by decide) (by decide)) j, fun j h _ => k3 j h, fun j _ _ _ => zz_of (k2 36 (by decide) (by decide)) j⟩, fun k hk => k2 k (by omega) (by omega), k2 37 (by decide) (by decide), k2 36 (by decide) (by decide)⟩
theorem FrY.z36 (s : aZ) (j : Nat) (x : Int) (h : j = 4 ∨ j = 5 ∨ j = 6) : FrY s (zu s 36 j x) := ⟨fun k _ _ _ _ _ _ _ g _ => zu_ne _ _ _ _ _ g, fun j _ => zz_ne _ _ _ _ _ _ (by omega), fun j _ _ => zz_ne _ _ _ _ _ _ (by omega), fun q h1 h2 h3 => zz_ne _ _ _ _ _ _ (by omega)⟩
theorem FrY.z37 (s : aZ) (j : Nat) (x : Int) : FrY s (zu s 37 j x) := ⟨fun k _ _ _ _ _ _ _ _ g => zu_ne _ _ _ _ _ g, fun j _ => zz_ne _ _ _ _ _ _ (by omega), fun j _ _ => zz_ne _ _ _ _ _ _ (by omega), fun q h1 h2 h3 => zz_ne _ _ _ _ _ _ (by omega)⟩
theorem FrY.zp (s : aZ) (k j : Nat) (x : Int) (h : 18 ≤ k ∧ k ≤ 23) : FrY s (zu s k j x) := ⟨fun q _ _ _ _ _ _ g _ _ => zu_ne _ _ _ _ _ (by omega), fun j _ => zz_ne _ _ _ _ _ _ (by omega), fun j _ _ => zz_ne _ _ _ _ _ _ (by omega), fun q h1 h2 h3 => zz_ne _ _ _ _ _ _ (by omega)⟩
theorem PS.z {P : Nat} {s s2 : aZ} (h : PS P s) (e17 : zz s2 17 8 = zz s 17 8) (e : ∀ k, 18 ≤ k → k ≤ 21 → ∀ j, zz s2 k j = zz s k j) : PS P s2 := by
  obtain ⟨p0, p1, p2, p3⟩ := h
  refine ⟨p0, e17.trans p1, fun j hj => ?_, fun j hj => ?_⟩
  · rw [e 21 (by decide) (by decide)]; exact p2 j hj
  · rw [e 18 (by decide) (by decide), e 19 (by decide) (by decide), e 20 (by decide) (by decide)]; exact p3 j hj
theorem Hv.ps {P : Nat} {s s2 : aZ} (a : Hv P s s2) (h : PS P s) : PS P s2 := by
  obtain ⟨p0, p1, p2, p3⟩ := h
  refine ⟨p0, (zz_of (a.k 17 (by decide)) 8).trans p1, a.pp p2, fun j hj => ?_⟩
  rw [zz_of (a.k 18 (by decide)), zz_of (a.k 19 (by decide)), zz_of (a.k 20 (by decide))]
  exact p3 j hj
theorem Hv.y {P : Nat} {s s2 : aZ} (a : Hv P s s2) : FrY s s2 := ⟨fun k _ _ _ _ _ _ g _ _ => a.k k (by omega), fun j _ => zz_of (a.k 1 (by decide)) j, fun j _ _ => zz_of (a.k 17 (by decide)) j, fun j _ _ _ => zz_of (a.k 36 (by decide)) j⟩
/-- a new node without parts -/
theorem PM.lone {P : Nat} {c : Int} {s s2 : aZ} (h : PM P c (-1) (-1) s s2) : (∀ j, j ≠ P → zz s2 21 j = zz s 21 j) ∧ zz s2 22 P = 1 ∧ zz s2 23 P = 1 := by
  have z : ∀ k, szP s k (-1) = 0 := fun k => by unfold szP; rw [if_pos (by decide)]
  have := h.exact (Or.inl (by decide)) (Or.inl (by decide)) (by rw [z]; decide) (by rw [z]; decide) (by rw [z]; decide) (by rw [z]; decide)
  rw [z, z] at this
  exact this
theorem PG.safe {P w P2 : Nat} {c one other : Int} {s s2 : aZ} (hc : inR c) (h1 : -1 ≤ one ∧ one < P) (h2 : -1 ≤ other ∧ other < P) (hS : PS P s) (h : PG P c one other s s2 w P2) (hF : c = 2 → 0 ≤ one ∧ 0 ≤ other := by omega) : PS P2 s2 ∧ P ≤ P2 ∧ P2 ≤ 17000 ∧ w < P2 ∧ FrY s s2 ∧ (∀ k, k ≤ 7 → s2 k = s k) ∧ s2 37 = s 37 ∧ s2 36 = s 36 := by
  rcases h with ⟨g1, rfl, rfl, hN⟩ | ⟨g1, rfl, rfl, rfl⟩
  · obtain ⟨y1, y2, y3, y4⟩ := hN.y g1 hc h1 h2 hS hF
    exact ⟨(hN.facts g1 hc h1 h2 hS hF).1, by omega, by omega, by omega, y1, y2, y3, y4⟩
  · refine ⟨hS.z (zz_ne _ _ _ _ _ _ (by omega)) (fun k _ _ j => zz_ne _ _ _ _ _ _ (by omega)), Nat.le_refl _, by omega, hS.1, ⟨fun k _ _ _ _ _ _ g _ _ => zu_ne _ _ _ _ _ (by omega), fun j _ => zz_ne _ _ _ _ _ _ (by omega), fun j _ g => zz_ne _ _ _ _ _ _ (by omega), fun j _ _ _ => zz_ne _ _ _ _ _ _ (by omega)⟩, fun k hk => zu_ne _ _ _ _ _ (by omega), zu_ne _ _ _ _ _ (by decide), zu_ne _ _ _ _ _ (by decide)⟩
theorem PG.pn {P w P2 : Nat} {c one other : Int} {s s2 : aZ} (hP : P < 17000) (h : PG P c one other s s2 w P2) : w = P ∧ P2 = P + 1 ∧ PN P c one other s s2 := by
  rcases h with ⟨g1, g2, g3, hN⟩ | ⟨g1, -⟩
  · exact ⟨g2, g3, hN⟩
  · omega
theorem PGm.safe {P w P2 : Nat} {c one other : Int} {s s2 : aZ} (hc : inR c) (h1 : -1 ≤ one ∧ one < P) (h2 : -1 ≤ other ∧ other < P) (hS : PS P s) (h : PGm P c one other s s2 w P2) (hF : c = 2 → 0 ≤ one ∧ 0 ≤ other := by omega) : PS P2 s2 ∧ P ≤ P2 ∧ P2 ≤ 17000 ∧ w < P2 ∧ FrY s s2 ∧ (∀ k, k ≤ 7 → s2 k = s k) ∧ s2 37 = s 37 ∧ s2 36 = s 36 := by
  rcases h with ⟨g1, rfl, rfl, hN⟩ | ⟨g1, rfl, rfl, s1, a, b, rfl, hv⟩
  · obtain ⟨y1, y2, y3, y4⟩ := hN.pn.y g1 hc h1 h2 hS hF
    exact ⟨(hN.facts g1 hc h1 h2 hS hF).1, by omega, by omega, by omega, y1, y2, y3, y4⟩
  · have hS1 : PS P2 (zu s 17 11 1) := hS.z (zz_ne _ _ _ _ _ _ (by omega)) (fun k _ _ j => zz_ne _ _ _ _ _ _ (by omega))
    have f0 : FrY s (zu s 17 11 1) := ⟨fun k _ _ _ _ _ _ g _ _ => zu_ne _ _ _ _ _ (by omega), fun j _ => zz_ne _ _ _ _ _ _ (by omega), fun j _ g => zz_ne _ _ _ _ _ _ (by omega), fun j _ _ _ => zz_ne _ _ _ _ _ _ (by omega)⟩
    have zk : ∀ k, (k < 17 ∨ 23 < k) → zu (zu s1 22 0 a) 23 0 b k = s k := fun k g => by rw [zu_ne _ _ _ _ _ (by omega), zu_ne _ _ _ _ _ (by omega), hv.k k (by omega), zu_ne _ _ _ _ _ (by omega)]
    exact ⟨(hv.ps hS1).z (by rw [zz_ne _ _ _ _ _ _ (by omega), zz_ne _ _ _ _ _ _ (by omega)]) (fun k _ _ j => by rw [zz_ne _ _ _ _ _ _ (by omega), zz_ne _ _ _ _ _ _ (by omega)]), Nat.le_refl _, by omega, hS.1, f0.tr (hv.y.tr ((FrY.zp s1 22 0 a ⟨by omega, by omega⟩).tr (FrY.zp _ 23 0 b ⟨by omega, by omega⟩))), fun k hk => zk k (by omega), zk 37 (by omega), zk 36 (by omega)⟩
theorem PGm.pn {P w P2 : Nat} {c one other : Int} {s s2 : aZ} (hP : P < 17000) (h : PGm P c one other s s2 w P2) : w = P ∧ P2 = P + 1 ∧ PM P c one other s s2 := by
  rcases h with ⟨g1, g2, g3, hN⟩ | ⟨g1, -⟩
  · exact ⟨g2, g3, hN⟩
  · omega
/-- a type's end: is it large? -/
theorem x_lgE (hB : a_Can B) {d : Nat} (hd : 4 ≤ d) (l : aZL) (x1 b : Int) (x : Nat) (x4 : Int) (P : Nat) (hP : P ≤ 17000) (s : aZ) (hS : PS P s) (hx : x < P) (hb : inR b) (h4 : zz s 36 4 ≤ b) : a_W d 65 58 [.ref 36, iv x1, iv b, iv (x : Int), iv x4] [] (mkH B s l) (fun q => ∃ (s2 : aZ) (v : Int), q = (.inl (some (iv (x : Int))), mkH B (zu s2 36 5 v) l) ∧ Hv P s s2 ∧ (v = 0 ∨ v = 1) ∧ (zz s 17 11 = 0 → ∀ T : aT, (zz s 21 x = x ∧ zz s 22 x = tyW T ∧ zz s 23 x = tyH T) → s2 = s ∧ (v ≠ 0 ↔ (zz s 36 5 ≠ 0 ∨ LgT T)))) := by
  refine w65_58 hB (by omega) x1 b _ x4 s l ⟨hb, fun _ => ⟨fun g => ?_, fun g => ⟨fun c => ?_, fun c => ?_⟩⟩, fun h => absurd h (by omega)⟩
  · exact ⟨s, 1, rfl, Hv.rf _ _, Or.inr rfl, fun _ T _ => ⟨rfl, fun _ => Or.inl g, fun _ => by decide⟩⟩
  · exact ⟨s, 1, rfl, Hv.rf _ _, Or.inr rfl, fun h => absurd h c⟩
  · refine w75_0 hB (by omega) _ s l (a_W.imp (x_sizeOf hB (by omega) l P hP x s hx hS.2.2.1) ?_)
    rintro _ ⟨s8, r, rfl, f1, f2, f3, -⟩
    have hx1 : ∀ T : aT, (zz s 21 x = x ∧ zz s 22 x = tyW T ∧ zz s 23 x = tyH T) → s8 = s ∧ zz s 22 r = tyW T := fun T h => by
      obtain ⟨g1, g2⟩ := f3 h.1 (by decide)
      exact ⟨g1, by rw [g2]; exact h.2.1⟩
    refine ⟨_, s8, l, rfl, inR_zz _ _ _, fun g40 => ⟨1, s8, l, rfl, by decide, fun c => absurd c (by decide), fun _ => ⟨s8, 1, rfl, f2, Or.inr rfl, fun _ T hT => ?_⟩⟩, fun g40 => a_W.imp (x_heightOf hB (by omega) l P hP x s8 hx (f2.pp hS.2.2.1)) ?_⟩
    · obtain ⟨q1, q2⟩ := hx1 T hT
      exact ⟨q1, fun _ => Or.inr (Or.inl (by omega)), fun _ => by decide⟩
    rintro _ ⟨s9, r9, rfl, m1, m2, m3, -⟩
    have hx2 : ∀ T : aT, (zz s 21 x = x ∧ zz s 22 x = tyW T ∧ zz s 23 x = tyH T) → s9 = s ∧ zz s 22 r = tyW T ∧ zz s8 23 r9 = tyH T := fun T h => by
      obtain ⟨q1, q2⟩ := hx1 T h
      rw [q1] at m3 ⊢
      obtain ⟨g1, g2⟩ := m3 h.1 (by decide)
      exact ⟨g1, q2, by rw [g2]; exact h.2.2⟩
    refine ⟨_, s9, l, rfl, inR_zz _ _ _, fun g12 => ⟨0, s9, l, rfl, by decide, fun _ => ⟨s9, 0, rfl, f2.tr m2, Or.inl rfl, fun _ T hT => ?_⟩, fun c => absurd rfl c⟩, fun g12 => ⟨1, s9, l, rfl, by decide, fun c => absurd c (by decide), fun _ => ⟨s9, 1, rfl, f2.tr m2, Or.inr rfl, fun _ T hT => ?_⟩⟩⟩
    · obtain ⟨q1, q2, q3⟩ := hx2 T hT
      refine ⟨q1, fun c => absurd rfl c, fun c => ?_⟩
      exfalso
      rcases c with c | c | c
      · exact c g
      · omega
      · omega
    · obtain ⟨q1, q2, q3⟩ := hx2 T hT
      exact ⟨q1, fun _ => Or.inr (Or.inr (by omega)), fun _ => by decide⟩
/-- behind a fault: an atom -/
theorem x_atomF (hB : a_Can B) {d : Nat} (hd : 6 ≤ d) (l : aZL) (x1 : Int) {f : Int} {i : Nat} {s : aZ} (h : XFt t n ns f i s) : a_W d 66 0 [.ref 36, iv x1] [] (mkH B s l) (fun q => q = (.inl (some (iv 0)), mkH B s l)) := by
  have k0 := h.k0
  refine w66_0 hB (by omega) x1 s l ⟨fun _ => w71_0 hB (by omega) x1 s l ⟨fun _ => ⟨fun _ => a_W.imp (x_expect_f hB (by omega) l 2 (by decide) h) ?_, fun c => absurd (k0.symm.trans c) (by decide)⟩, fun c => absurd (k0.symm.trans c) (by decide)⟩, fun c => absurd (k0.symm.trans c) (by decide)⟩
  rintro _ rfl
  exact ⟨s, l, rfl, _, s, l, rfl, rfl⟩
/-- behind a fault: a type -/
theorem x_readF (hB : a_Can B) {d : Nat} (hd : 7 ≤ d) (l : aZL) (x1 : Int) {P : Nat} (hP : P ≤ 17000) {s : aZ} (hS : PS P s) {f : Int} {i : Nat} (h : XFt t n ns f i s) : a_W d 65 0 [.ref 36, iv x1, .retAddr 0, .retAddr 0, .retAddr 0] [] (mkH B s l) (fun q => ∃ (s2 : aZ) (v : Int), q = (.inl (some (iv 0)), mkH B (zu s2 36 5 v) l) ∧ Hv P s s2 ∧ (v = 0 ∨ v = 1)) := by
  have k0 := h.k0
  refine w65_0 hB (by omega) x1 s l (a_W.imp (x_atomF hB (by omega) l x1 h) ?_)
  rintro _ rfl
  have ex : a_W d 65 58 [.ref 36, iv x1, iv (zz s 36 4), iv 0, iv 0] [] (mkH B s l) (fun q => ∃ (s2 : aZ) (v : Int), q = (.inl (some (iv 0)), mkH B (zu s2 36 5 v) l) ∧ Hv P s s2 ∧ (v = 0 ∨ v = 1)) := by
    refine a_W.imp (x_lgE hB (by omega) l x1 (zz s 36 4) 0 0 P hP s hS hS.1 (inR_zz _ _ _) (Int.le_refl _)) ?_
    rintro _ ⟨s2, v, rfl, h1, h2, -⟩
    exact ⟨s2, v, rfl, h1, h2⟩
  exact ⟨_, s, l, rfl, w65_14 hB (by omega) x1 _ 0 0 s l ⟨by decide, fun _ => ex, fun _ => ⟨fun _ => ex, fun c => absurd (k0.symm.trans c) (by decide)⟩⟩⟩
def XA0 (B : aH) (t : Nat → Int) (n : Nat) (ns tn : List (List Int)) (ta : List Int) (N : Nat) : Prop := ∀ (G : Prop) (d dep K i P wc : Nat) (s : aZ) (l : aZL) (res : (Int × Nat) ⊕ (aT × Nat)), 30 + 5 * (40 - dep) ≤ d → dep ≤ 40 → pty t n N 0 dep i = some res → i ≤ 6000 → XAt t n ns i s → XTy tn ta s → PS P s → zz s 36 4 = (wc : Nat) → 2 * wc ≤ i → P ≤ 17000 → (G → P + K ≤ i + 10999 ∧ zz s 17 11 = 0) → a_W d 65 0 [.ref 36, iv (dep : Int), .retAddr 0, .retAddr 0, .retAddr 0] [] (mkH B s l) (XPo t n ns tn ta True G P wc K res B s l)
def XA1 (B : aH) (t : Nat → Int) (n : Nat) (ns tn : List (List Int)) (ta : List Int) (N : Nat) : Prop := ∀ (G : Prop) (d dep K i P wc : Nat) (s : aZ) (l : aZL) (res : (Int × Nat) ⊕ (aT × Nat)), 29 + 5 * (40 - dep) ≤ d → dep ≤ 40 → pty t n N 1 dep i = some res → i ≤ 6000 → XAt t n ns i s → XTy tn ta s → PS P s → zz s 36 4 = (wc : Nat) → 2 * wc ≤ i → P ≤ 17000 → (G → P + K ≤ i + 10999 ∧ zz s 17 11 = 0) → a_W d 66 0 [.ref 36, iv (dep : Int)] [] (mkH B s l) (XPo t n ns tn ta False G P wc K res B s l)
def XA2 (B : aH) (t : Nat → Int) (n : Nat) (ns tn : List (List Int)) (ta : List Int) (N : Nat) : Prop := ∀ (G : Prop) (d dep K i P wc : Nat) (s : aZ) (l : aZL) (res : (Int × Nat) ⊕ (aT × Nat)), 26 + 5 * (40 - dep) ≤ d → dep ≤ 40 → pty t n N 2 dep i = some res → i ≤ 6000 → ftT t n i = 0 → kdT t n i = 4 → XC t n ns i s → XTy tn ta s → PS P s → zz s 36 4 = (wc : Nat) → 2 * wc ≤ i → P ≤ 17000 → (G → P + K ≤ i + 10999 ∧ zz s 17 11 = 0) → a_W d 72 0 [.ref 36, iv (dep : Int), .retAddr 0] [] (mkH B s l) (XPo t n ns tn ta False G P wc K res B s l)
/-- a fault, the pool as it was -/
theorem XPo.bad {top G : Prop} {P wc K : Nat} {f : Int} {j w : Nat} {B : aH} {s s2 : aZ} {l : aZL} (hf : FrY s s2) (hw : w < P) (hP : P ≤ 17000) (hS : PS P s2) (h4 : zz s2 36 4 = (wc : Nat)) (hW : WtF wc s s2) (hF : XFt t n ns f j s2) (h5 : top → zz s2 36 5 = 0 ∨ zz s2 36 5 = 1) : XPo t n ns tn ta top G P wc K (.inl (f, j)) B s l (.inl (some (iv (w : Int))), mkH B s2 l) := ⟨s2, w, P, rfl, hf, Nat.le_refl _, hP, hw, hS, h4, hW, h5, Or.inr ⟨f, j, rfl, hF⟩⟩
theorem x_a2 (hB : a_Can B) (hcap : XCap t n ns) (N : Nat) (hM : XA0 B t n ns tn ta N) : XA2 B t n ns tn ta (N + 1) := by
  intro G d dep K i P wc s l res hd hdep h hi h0 h4 hC hT hS hw hwi hP hK
  have hk := kd_rng h0
  have hs : stT t n i < n := by omega
  have i6 := (ft0 h0 hs).1
  have p0 := hS.1
  rw [pty_2] at h
  rcases pLk_some h with ⟨c, -⟩ | ⟨-, h⟩
  · exact absurd h0 c
  refine w72_0 hB (by omega) _ s l (a_W.imp (x_advance hB (by omega) hcap l i h0 hs hC) ?_)
  rintro _ ⟨s1, rfl, hA, f1, -⟩
  refine ⟨s1, l, rfl, ?_⟩
  have hS1 := f1.ps hS
  have hT1 := f1.y.ty hT
  have hw1 : zz s1 36 4 = (wc : Nat) := (zz_of (f1.hi 36 (by decide)) 4).trans hw
  have h61 : zz s1 36 6 = zz s 36 6 := zz_of (f1.hi 36 (by decide)) 6
  have h51 : zz s1 36 5 = zz s 36 5 := zz_of (f1.hi 36 (by decide)) 5
  have h11 : zz s1 17 11 = zz s 17 11 := zz_of (f1.hi 17 (by decide)) 11
  refine w61_0 hB (by omega) _ s1 l ⟨⟨by omega, by omega⟩, fun hlt => ?_, fun hge => ?_⟩
  · refine ⟨0, s1, l, rfl, by decide, fun _ => ?_, fun c => absurd rfl c⟩
    by_cases g0 : ftT t n (i + 1) = 0
    · rcases pLk_some h with ⟨c, -⟩ | ⟨-, h⟩
      · exact absurd g0 c
      rw [if_neg (by omega)] at h
      have hC1 := hA.1 g0
      rcases pBd_some h with ⟨e, q1, rfl⟩ | ⟨a, j, q1, q2⟩
      · have hr := hM G (d - 1) (dep + 1) K (i + 1) P wc s1 l _ (by omega) (by omega) q1 (by omega) hA hT1 hS1 hw1 (by omega) hP (fun g => by have := hK g; omega)
        rw [show ((dep + 1 : Nat) : Int) = (dep : Int) + 1 by omega] at hr
        refine a_W.imp hr ?_
        rintro _ ⟨s2, w, P2, rfl, a2, a3, a8, a4, a5, a6, a7, -, ⟨T, j, b1, -⟩ | ⟨f, j, b1, b3⟩⟩
        · cases b1
        · cases b1
          refine ⟨_, s2, l, rfl, a_W.imp (x_expect_f hB (by omega) l 5 (by decide) b3) ?_⟩
          rintro _ rfl
          exact ⟨s2, l, rfl, s2, w, P2, rfl, f1.y.tr a2, a3, a8, a4, a5, a6, (f1.wt wc).tr a7 (Nat.le_refl _), False.elim, Or.inr ⟨f, j, rfl, b3⟩⟩
      · have hj := (pty_le t n N 0 (dep + 1) (i + 1) _ (by decide) (fun c => absurd c (by decide)) (by omega) q1).1 a j rfl
        have hr := hM G (d - 1) (dep + 1) K (i + 1) P wc s1 l _ (by omega) (by omega) q1 (by omega) hA hT1 hS1 hw1 (by omega) hP (fun g => by have := hK g; omega)
        rw [show ((dep + 1 : Nat) : Int) = (dep : Int) + 1 by omega] at hr
        refine a_W.imp hr ?_
        rintro _ ⟨s2, w, P2, rfl, a2, a3, a8, a4, a5, a6, a7, -, ⟨T, j', b1, b3, bG⟩ | ⟨f, j', b1, -⟩⟩
        rotate_left
        · cases b1
        cases b1
        refine ⟨_, s2, l, rfl, a_W.imp (x_expect hB (by omega) hcap l j 5 (by decide) b3) ?_⟩
        rintro _ ⟨s3, rfl, f3, hc⟩
        have z36 : ∀ q, zz s3 36 q = zz s2 36 q := fun q => zz_of (f3.hi 36 (by decide)) q
        rcases hc with ⟨c1, c2, c3, c4⟩ | ⟨c1, c2, c3⟩ | ⟨c1, c2⟩
        · rcases pLk_some q2 with ⟨c, -⟩ | ⟨-, q2⟩
          · exact absurd c1 c
          rw [if_pos c2] at q2
          cases q2
          refine ⟨s3, l, rfl, s3, w, P2, rfl, f1.y.tr (a2.tr f3.y), a3, a8, a4, f3.ps a5, (z36 4).trans a6, ((f1.wt wc).tr a7 (Nat.le_refl _)).tr (f3.wt wc) (Nat.le_refl _), False.elim, Or.inl ⟨a, j + 1, rfl, c4, fun g => ?_⟩⟩
          obtain ⟨b0, b2, b4, b5, b6, bL, b9⟩ := bG g
          refine ⟨?_, by omega, ((f1.p P).tr b4 (Nat.le_refl _)).tr (f3.p P) (Nat.le_refl _), PI.keep (fun k q g1 g2 _ _ => zz_of (f3.hi k (by omega)) q) (Nat.le_refl _) (Nat.le_refl _) _ _ _ _ b5, ?_, bL.cp h51 (z36 5) False.elim, b9.keep (fun k q g1 g2 _ _ => zz_of (f3.hi k (by omega)) q)⟩
          · rw [zz_of (f3.hi 17 (by decide)), b0, zz_of (f1.hi 17 (by decide))]
          · rw [z36 6, b6, h61]
        · rcases pLk_some q2 with ⟨c, -⟩ | ⟨-, q2⟩
          · exact absurd c1 c
          rw [if_neg c2] at q2
          cases q2
          exact ⟨s3, l, rfl, s3, w, P2, rfl, f1.y.tr (a2.tr f3.y), a3, a8, a4, f3.ps a5, (z36 4).trans a6, ((f1.wt wc).tr a7 (Nat.le_refl _)).tr (f3.wt wc) (Nat.le_refl _), False.elim, Or.inr ⟨2, j, rfl, c3⟩⟩
        · rcases pLk_some q2 with ⟨-, rfl⟩ | ⟨c, -⟩
          · exact ⟨s3, l, rfl, s3, w, P2, rfl, f1.y.tr (a2.tr f3.y), a3, a8, a4, f3.ps a5, (z36 4).trans a6, ((f1.wt wc).tr a7 (Nat.le_refl _)).tr (f3.wt wc) (Nat.le_refl _), False.elim, Or.inr ⟨_, j, rfl, c2⟩⟩
          · exact absurd c c1
    · rcases pLk_some h with ⟨-, rfl⟩ | ⟨c, -⟩
      rotate_left
      · exact absurd c g0
      have hF := hA.f g0
      refine a_W.imp (x_readF hB (by omega) l _ hP hS1 hF) ?_
      rintro _ ⟨s2, v, rfl, hv, -⟩
      have hF2 : XFt t n ns (ftT t n (i + 1)) (i + 1) (zu s2 36 5 v) := hF.keep (fun k hk => (zu_ne _ _ _ _ _ (by omega)).trans (hv.k k (by omega)))
      refine ⟨_, _, l, rfl, a_W.imp (x_expect_f hB (by omega) l 5 (by decide) hF2) ?_⟩
      rintro _ rfl
      refine ⟨_, l, rfl, XPo.bad (w := 0) (f1.y.tr (hv.y.tr (FrY.z36 _ 5 _ (Or.inr (Or.inl rfl))))) p0 hP ((hv.ps hS1).z (zz_ne _ _ _ _ _ _ (by omega)) (fun k _ _ j => zz_ne _ _ _ _ _ _ (by omega))) ?_ ((f1.wt wc).tr (fun q _ => ?_) (Nat.le_refl _)) hF2 False.elim⟩
      · rw [zz_ne _ _ _ _ _ _ (by omega), zz_of (hv.k 36 (by decide))]; exact hw1
      · rw [zz_ne _ _ _ _ _ _ (by omega), zz_of (hv.k 37 (by decide))]
  · by_cases g0 : ftT t n (i + 1) = 0
    · rcases pLk_some h with ⟨c, -⟩ | ⟨-, h⟩
      · exact absurd g0 c
      rw [if_pos (by omega)] at h
      cases h
      have hC1 := hA.1 g0
      have x10 := hC1.2.1
      obtain ⟨k1, k2⟩ := hC1.die 8 (by decide) (by decide)
      refine ⟨fun c => absurd x10 c, fun _ => ⟨1, _, l, rfl, by decide, fun c => absurd c (by decide), fun _ => ?_⟩⟩
      exact XPo.bad (w := 0) (f1.y.tr k2.y) p0 hP (k2.ps hS1) ((zz_of (k2.hi 36 (by decide)) 4).trans hw1) ((f1.wt wc).tr (k2.wt wc) (Nat.le_refl _)) k1 False.elim
    · rcases pLk_some h with ⟨-, rfl⟩ | ⟨c, -⟩
      rotate_left
      · exact absurd c g0
      have hF := hA.f g0
      refine ⟨fun _ => ⟨1, s1, l, rfl, by decide, fun c => absurd c (by decide), fun _ => XPo.bad (w := 0) f1.y p0 hP hS1 hw1 (f1.wt wc) hF False.elim⟩, fun c => absurd (hF.2.2.1.symm.trans c) hF.2.1⟩
/-- a part that is no name -/
theorem x_rp (hB : a_Can B) (hcap : XCap t n ns) (N : Nat) (hM : XA2 B t n ns tn ta N) (G : Prop) (d dep K i P wc : Nat) (s : aZ) (l : aZL) (res : (Int × Nat) ⊕ (aT × Nat)) (hd : 27 + 5 * (40 - dep) ≤ d) (hdep : dep ≤ 40) (hi : i ≤ 6000) (h0 : ftT t n i = 0) (h4 : kdT t n i = 4 → pty t n N 2 dep i = some res) (h2 : kdT t n i = 2 → res = .inr (.leaf (0, i), i + 1)) (hn : kdT t n i ≠ 4 → kdT t n i ≠ 2 → res = .inl (2, i)) (hC : XC t n ns i s) (hT : XTy tn ta s) (hS : PS P s) (hw : zz s 36 4 = (wc : Nat)) (hwi : 2 * wc ≤ i) (hP : P ≤ 17000) (hK : G → P + K ≤ i + 10999 ∧ zz s 17 11 = 0) : a_W d 71 0 [.ref 36, iv (dep : Int), .retAddr 0] [] (mkH B s l) (XPo t n ns tn ta False G P wc K res B s l) := by
  have k6 : zz s 1 6 = kdT t n i := hC.2.2.2.2.1
  have hk := kd_rng h0
  have p0 := hS.1
  have hA : XAt t n ns i s := ⟨fun _ => hC, fun c => absurd h0 c⟩
  refine w71_0 hB (by omega) _ s l ⟨fun n4 => ⟨fun n2 => ?_, fun k2 => ?_⟩, fun k4 => ?_⟩
  · rw [k6] at n4 n2
    rw [hn n4 n2]
    refine a_W.imp (x_expect hB (by omega) hcap l i 2 (by decide) hA) ?_
    rintro _ ⟨s3, rfl, f3, ⟨c1, c2, -⟩ | ⟨c1, c2, c3⟩ | ⟨c1, c2⟩⟩
    · exact absurd c2 n2
    · exact ⟨s3, l, rfl, XPo.bad (w := 0) f3.y p0 hP (f3.ps hS) ((zz_of (f3.hi 36 (by decide)) 4).trans hw) (f3.wt wc) c3 False.elim⟩
    · exact absurd h0 c1
  · rw [k6] at k2
    rw [h2 k2]
    have i6 := (ft0 h0 (show stT t n i < n by omega)).1
    have v9 : zz s 1 9 = vT t n ns i := hC.2.2.2.2.2.2.2.2.2 k2
    have vr : 0 ≤ vT t n ns i ∧ vT t n ns i ≤ 3000 := by
      have := ixn_rng (nsT t n ns i) (nmT t n (stT t n i))
      have := (hcap i).1
      unfold vT
      omega
    rw [v9]
    refine a_W.imp (x_writG hB (by omega) l P hP s hS (-1000 - vT t n ns i) (-1) (-1) ⟨by omega, by omega⟩ ⟨by omega, by omega⟩ ⟨by omega, by omega⟩) ?_
    rintro _ ⟨s1, w1, P1, rfl, hG⟩
    obtain ⟨z1, z2, z3, z4, y1, y2, y3, y4⟩ := hG.safe ⟨by omega, by omega⟩ ⟨by omega, by omega⟩ ⟨by omega, by omega⟩ hS
    refine ⟨_, s1, l, rfl, a_W.imp (x_expect hB (by omega) hcap l i 2 (by decide) (hA.keep y2)) ?_⟩
    rintro _ ⟨s3, rfl, f3, ⟨c1, c2, c3, c4⟩ | ⟨c1, c2, c3⟩ | ⟨c1, c2⟩⟩
    · have z : ∀ k j, 10 ≤ k → zz s3 k j = zz s1 k j := fun k j g => zz_of (f3.hi k g) j
      refine ⟨s3, l, rfl, s3, w1, P1, rfl, y1.tr f3.y, z2, z3, z4, f3.ps z1, ?_, ?_, False.elim, Or.inl ⟨.leaf (0, i), i + 1, rfl, c4, fun g => ?_⟩⟩
      · rw [z 36 4 (by decide), zz_of y4]; exact hw
      · intro j _; rw [z 37 j (by decide), zz_of y3]
      have hPl := hK g
      obtain ⟨rfl, rfl, hN⟩ := hG.pn (by omega)
      obtain ⟨k1, k2', k3, k4, k5⟩ := hN.facts (by omega) ⟨by omega, by omega⟩ ⟨by omega, by omega⟩ ⟨by omega, by omega⟩ hS
      obtain ⟨e21, e22, e23⟩ := hN.lone
      refine ⟨?_, by omega, ?_, ?_, ?_, LgC.same ((z 36 5 (by decide)).trans (zz_of y4 5)), NwO.keep (NwO.one k4 (by omega) (by omega) (by omega) (fun _ => by rw [arT_n (by omega)]; exact ⟨by omega, by omega⟩)) (fun k j g1 g2 _ _ => z k j (by omega))⟩
      · rw [z 17 11 (by decide), k3 11 (by decide)]
      · intro k g1 g2 j hj
        rw [z k j (by omega)]
        by_cases e : k = 21
        · subst e; exact e21 j (by omega)
        · exact k5 k j g1 g2 e (by omega)
      · refine ⟨⟨by omega, by omega⟩, ?_⟩
        rw [natc, z 21 _ (by decide), z 22 _ (by decide), z 23 _ (by decide), z 18 _ (by decide), z 19 _ (by decide), z 20 _ (by decide)]
        exact ⟨k4.2.2.2, e22, e23, rfl, k4.1, k4.2.1, k4.2.2.1⟩
      · rw [z 36 6 (by decide), zz_of y4]; rfl
    · exact absurd k2 c2
    · exact absurd h0 c1
  · rw [k6] at k4
    refine a_W.imp (hM G (d - 1) dep K i P wc s l res (by omega) hdep (h4 k4) hi h0 k4 hC hT hS hw hwi hP hK) ?_
    intro q hq
    obtain ⟨s2, x, P2, rfl, a2⟩ := hq
    exact ⟨_, s2, l, rfl, s2, x, P2, rfl, a2⟩
/-- the name at token i -/
theorem x_nm (hB : a_Can B) {d : Nat} (hd : 1 ≤ d) (l : aZL) {i : Nat} {s : aZ} (h0 : ftT t n i = 0) (k1 : kdT t n i = 1) (hC : XC t n ns i s) (hT : XTy tn ta s) : a_W d 39 0 [.ref 10, .ref 2, iv (zz s 1 7), iv (zz s 1 8), .retAddr 0, .retAddr 0] [] (mkH B s l) (fun q => q = (.inl (some (iv (fd tn (nmW t n (stT t n i)) tn.length))), mkH B s l)) := by
  have hk := kd_rng h0
  have hs : stT t n i < n := by omega
  have hF := (ft0 h0 hs).2
  have hk0 : tkK t n (stT t n i) = 1 := by unfold kdT at k1; rw [if_pos hs] at k1; exact k1
  have hz := tkK1 hk0
  obtain ⟨v1, v2, v3, v4⟩ := nmW_ok hs hF hz
  have hE := tkE_le hs hF
  have hn8 := hC.1.2.1
  rw [hC.2.2.2.1, (hC.2.2.2.2.2.1 hs).1]
  exact x_find10 hB hd s l tn hT.1 (stT t n i) (tkE t n (stT t n i)) (nmW t n (stT t n i)) v2 (by omega) (nmW_sg hC.1 hs hF hz)
theorem gdN_t {i c : Nat} : gdN t n tn ta i c = true ↔ (0 ≤ fd tn (nmW t n (stT t n i)) tn.length ∧ ta.getD (fd tn (nmW t n (stT t n i)) tn.length).toNat 0 = (c : Int)) := by
  unfold gdN
  rw [Bool.and_eq_true, decide_eq_true_eq, decide_eq_true_eq]
theorem gdN_f {i c : Nat} (h : ¬ (0 ≤ fd tn (nmW t n (stT t n i)) tn.length ∧ ta.getD (fd tn (nmW t n (stT t n i)) tn.length).toNat 0 = (c : Int))) : gdN t n tn ta i c = false := by
  cases e : gdN t n tn ta i c with
  | false => rfl
  | true => exact absurd (gdN_t.mp e) h
theorem bad_name (i : Nat) (R : aT) (hR : tyBad t n tn ta R = false) : tyBad t n tn ta (.branch (4 * i + 1) R (.leaf (1, 0))) = !gdN t n tn ta i (argN R) := by
  show ((decide ((4 * i + 1) % 4 = 1) && !gdN t n tn ta ((4 * i + 1) / 4) (argN R)) || tyBad t n tn ta R || false) = _
  rw [show (4 * i + 1) % 4 = 1 by omega, show (4 * i + 1) / 4 = i by omega, hR, Bool.or_false, Bool.or_false]
  rfl
end
