/-! THE READER MEASURES ITS TYPES -/
/-- nodes of a tree -/
def ndT : aT → Nat
  | .leaf _ => 1
  | .branch _ x y => 1 + ndT x + ndT y
/-- p is a part of r -/
def xPt (rt : Nat → Nat) (s0 : aZ) (p r : Nat) : Prop := (0 ≤ zz s0 19 r ∧ rt (zz s0 19 r).toNat = p) ∨ (0 ≤ zz s0 20 r ∧ rt (zz s0 20 r).toNat = p)
def xCh (rt : Nat → Nat) (s0 : aZ) : List Nat → Prop
  | [] => True
  | a :: l => (∀ b, l.head? = some b → xPt rt s0 a b) ∧ xCh rt s0 l
/-- the height and the size of a part -/
def hgP (rt : Nat → Nat) (s : aZ) (x : Int) : Int := if x < 0 then 0 else zz s 23 (rt x.toNat)
def sgP (rt : Nat → Nat) (s : aZ) (x : Int) : Int := if x < 0 then 0 else zz s 22 (rt x.toNat)
/-- k is measured -/
def xMs (rt : Nat → Nat) (s0 s : aZ) (k : Nat) : Prop := zz s 23 k = max (hgP rt s (zz s0 19 k)) (hgP rt s (zz s0 20 k)) + 1 ∧ zz s 22 k = min (1 + sgP rt s (zz s0 19 k) + sgP rt s (zz s0 20 k)) 1000000 ∧ (0 ≤ zz s0 19 k → 1 ≤ zz s 23 (rt (zz s0 19 k).toNat)) ∧ (0 ≤ zz s0 20 k → 1 ≤ zz s 23 (rt (zz s0 20 k).toNat)) ∧ (1 ≤ zz s 22 k ∧ zz s 22 k ≤ 1000000)
def xMB (P : Nat) (rt u : Nat → Nat) (s0 s : aZ) : Prop := PP P s ∧ Uf P (vwX s) rt u ∧ (∀ k, k ≠ 21 → k ≠ 22 → k ≠ 23 → k ≠ 24 → s k = s0 k) ∧ ∀ v, Vl unX P (vwX s) v ↔ Vl unX P (vwX s0) v
theorem xMB.hv {P : Nat} {rt u : Nat → Nat} {s0 s s2 : aZ} (h : xMB P rt u s0 s) (a : Hv P s s2) : xMB P rt u s0 s2 := by
  obtain ⟨h1, h2, h3, h4⟩ := h
  obtain ⟨g1, g2, g3, -⟩ := a.uf h2 h1
  exact ⟨g2, g1, fun k a1 a2 a3 a4 => (a.k k a1).trans (h3 k a1 a2 a3 a4), fun v => (g3 unX v).trans (h4 v)⟩
theorem xMB.wr {P : Nat} {rt u : Nat → Nat} {s0 s : aZ} (h : xMB P rt u s0 s) (c j : Nat) (x : Int) (hc : c = 22 ∨ c = 23 ∨ c = 24) : xMB P rt u s0 (zu s c j x) := by
  obtain ⟨h1, h2, h3, h4⟩ := h
  have e : vwX (zu s c j x) = vwX s := vwX_of (fun k k1 k2 i => zz_ne _ _ _ _ _ _ (by omega))
  refine ⟨fun i hi => by rw [zz_ne _ _ _ _ _ _ (by omega)]; exact h1 i hi, by rw [e]; exact h2, fun k a1 a2 a3 a4 => (zu_ne _ _ _ _ _ (by omega)).trans (h3 k a1 a2 a3 a4), by rw [e]; exact h4⟩
theorem rt_rt {P : Nat} {A : aPl} {rt u : Nat → Nat} (h : Uf P A rt u) {k : Nat} (hk : k < P) : rt k < P ∧ rt (rt k) = rt k := by
  obtain ⟨-, b, c, -⟩ := h k hk
  exact ⟨b, ((h (rt k) b).2.2.2.2.1 c).1⟩
/-- a part's tree is smaller -/
theorem xPt.lt {ar : Int → Nat} {P : Nat} {s0 : aZ} {rt u : Nat → Nat} (hE : PE ar P s0 rt u) {v : Nat → aT} (hV : Vl unX P (vwX s0) v) {p r : Nat} (hr : r < P) (h : xPt rt s0 p r) : ndT (v p) < ndT (v r) := by
  obtain ⟨h1, h2, h3, h4⟩ := hE
  have hne : (vwX s0).2.1 r ≠ unX := fun e => by
    have := (h3.2 r hr).2 e
    have q1 : (vwX s0).2.2.1 r = zz s0 19 r := rfl
    have q2 : (vwX s0).2.2.2 r = zz s0 20 r := rfl
    rcases h with h | h <;> omega
  have e := (hV r hr).2 hne
  have g := h1.2.2.2 r hr
  rw [e]
  have e1 : (vwX s0).2.2.1 r = zz s0 19 r := rfl
  have e2 : (vwX s0).2.2.2 r = zz s0 20 r := rfl
  rw [e1, e2]
  show _ < 1 + ndT _ + ndT _
  rcases h with ⟨a, b⟩ | ⟨a, b⟩
  · rw [ptT_p v _ a, hV.root h2 _ (show (zz s0 19 r).toNat < P by omega), b]
    omega
  · rw [ptT_p v _ a, hV.root h2 _ (show (zz s0 20 r).toNat < P by omega), b]
    omega
theorem xCh.le {ar : Int → Nat} {P : Nat} {s0 : aZ} {rt u : Nat → Nat} (hE : PE ar P s0 rt u) {v : Nat → aT} (hV : Vl unX P (vwX s0) v) : ∀ (L : List Nat) (r : Nat), (∀ k ∈ r :: L, k < P) → xCh rt s0 (r :: L) → ∀ k ∈ r :: L, ndT (v r) ≤ ndT (v k) := by
  intro L
  induction L with
  | nil =>
    intro r _ _ k hk
    rcases List.mem_cons.mp hk with rfl | hk
    · exact Nat.le_refl _
    · exact absurd hk List.not_mem_nil
  | cons b L ih =>
    intro r hl h k hk
    rcases List.mem_cons.mp hk with rfl | hk
    · exact Nat.le_refl _
    · have h1 := xPt.lt hE hV (hl b (List.mem_cons_of_mem _ List.mem_cons_self)) (h.1 b rfl)
      have h2 := ih b (fun q hq => hl q (List.mem_cons_of_mem _ hq)) h.2 k hk
      omega
/-- unmeasured nodes that do not wait -/
def cz (P : Nat) (s : aZ) (L : List Nat) : Nat := (List.range P).countP (fun k => decide (zz s 23 k = 0 ∧ k ∉ L))
def xDS (P : Nat) (rt : Nat → Nat) (s0 s : aZ) (L : List Nat) (M : Nat) : Prop := (L.Nodup ∧ (∀ k ∈ L, k < P ∧ rt k = k) ∧ xCh rt s0 L) ∧ ((∀ k ∈ L.tail, zz s 23 k = -1) ∧ ∀ k ∈ L, zz s 23 k ≤ 0) ∧ (∀ k, k < P → zz s 23 k = -1 → k ∈ L) ∧ (∀ k, k < P → -1 ≤ zz s 23 k ∧ zz s 23 k ≤ M) ∧ (∀ k, k < P → rt k = k → 1 ≤ zz s 23 k → xMs rt s0 s k) ∧ M + L.length + cz P s L ≤ P
def xSk (s : aZ) (L : List Nat) : Prop := ∀ i, i < L.length → zz s 24 (L.length - 1 - i) = (L.getD i 0 : Nat)
theorem cz_eq {P : Nat} {s s2 : aZ} {L L2 : List Nat} (h : ∀ k, k < P → ((zz s2 23 k = 0 ∧ k ∉ L2) ↔ (zz s 23 k = 0 ∧ k ∉ L))) : cz P s2 L2 = cz P s L := by
  unfold cz
  apply List.countP_congr
  intro k hk
  rw [decide_eq_true_iff, decide_eq_true_iff]
  exact h k (List.mem_range.mp hk)
theorem cz_dec {P : Nat} {s s2 : aZ} {L L2 : List Nat} {a : Nat} (ha : a < P) (h1 : zz s 23 a = 0 ∧ a ∉ L) (h2 : ¬ (zz s2 23 a = 0 ∧ a ∉ L2)) (h : ∀ k, k ≠ a → ((zz s2 23 k = 0 ∧ k ∉ L2) ↔ (zz s 23 k = 0 ∧ k ∉ L))) : cz P s2 L2 + 1 = cz P s L := by
  unfold cz
  refine cnt_upd _ _ a (decide_eq_true h1) (decide_eq_false h2) (fun k hk => ?_) P ha
  exact decide_eq_decide.mpr (h k hk)
theorem xMs.keep {P : Nat} {rt : Nat → Nat} {s0 s s2 : aZ} {k : Nat} (h : xMs rt s0 s k) (h1 : ∀ j, 1 ≤ zz s 23 j → zz s2 23 j = zz s 23 j ∧ zz s2 22 j = zz s 22 j) (hk : 1 ≤ zz s 23 k) : xMs rt s0 s2 k := by
  obtain ⟨a1, a2, a3, a4, a5⟩ := h
  have e : ∀ x : Int, (0 ≤ x → 1 ≤ zz s 23 (rt x.toNat)) → hgP rt s2 x = hgP rt s x ∧ sgP rt s2 x = sgP rt s x := fun x hx => by
    unfold hgP sgP
    by_cases c : x < 0
    · exact ⟨by rw [if_pos c, if_pos c], by rw [if_pos c, if_pos c]⟩
    · rw [if_neg c, if_neg c, if_neg c, if_neg c]; exact h1 _ (hx (by omega))
  obtain ⟨e1, e2⟩ := e _ a3
  obtain ⟨e3, e4⟩ := e _ a4
  obtain ⟨e5, e6⟩ := h1 k hk
  refine ⟨by rw [e5, e1, e3]; exact a1, by rw [e6, e2, e4]; exact a2, fun q => ?_, fun q => ?_, by rw [e6]; exact a5⟩
  · rw [(h1 _ (a3 q)).1]; exact a3 q
  · rw [(h1 _ (a4 q)).1]; exact a4 q
section
variable {B : aH} {P : Nat} {rt u : Nat → Nat} {s0 : aZ}
theorem x_heightU (hB : a_Can B) {d : Nat} (hd : 1 ≤ d) (l : aZL) (hP : P ≤ 17000) (x : Nat) (hx : x < P) {s : aZ} (h : xMB P rt u s0 s) : a_W d 52 0 [.ref 17, iv (x : Int)] [] (mkH B s l) (fun q => ∃ s2, q = (.inl (some (iv (zz s 23 (rt x)))), mkH B s2 l) ∧ Hv P s s2) := by
  refine w52_0 hB (by omega) _ s l (a_W.imp (x_findU hB l P hP x s hx h.1 h.2.1) ?_)
  rintro _ ⟨s2, rfl, hv⟩
  have r := (rt_rt h.2.1 hx).1
  refine ⟨_, s2, l, rfl, ⟨by omega, by omega⟩, s2, ?_, hv⟩
  rw [natc, zz_of (hv.k 23 (by decide))]
theorem x_sizeU (hB : a_Can B) {d : Nat} (hd : 1 ≤ d) (l : aZL) (hP : P ≤ 17000) (x : Nat) (hx : x < P) {s : aZ} (h : xMB P rt u s0 s) : a_W d 50 0 [.ref 17, iv (x : Int)] [] (mkH B s l) (fun q => ∃ s2, q = (.inl (some (iv (zz s 22 (rt x)))), mkH B s2 l) ∧ Hv P s s2) := by
  refine w50_0 hB (by omega) _ s l (a_W.imp (x_findU hB l P hP x s hx h.1 h.2.1) ?_)
  rintro _ ⟨s2, rfl, hv⟩
  have r := (rt_rt h.2.1 hx).1
  refine ⟨_, s2, l, rfl, ⟨by omega, by omega⟩, s2, ?_, hv⟩
  rw [natc, zz_of (hv.k 22 (by decide))]
/-- a node is measured, its parts are -/
theorem x_measureU (hB : a_Can B) {d : Nat} (hd : 3 ≤ d) (l : aZL) (hP : P ≤ 17000) (k : Nat) (hk : k < P) {s : aZ} (h : xMB P rt u s0 s) (h1 : -1 ≤ zz s0 19 k ∧ zz s0 19 k < P) (h2 : -1 ≤ zz s0 20 k ∧ zz s0 20 k < P) (b1 : 0 ≤ sgP rt s (zz s0 19 k) ∧ sgP rt s (zz s0 19 k) ≤ 1000000) (b2 : 0 ≤ sgP rt s (zz s0 20 k) ∧ sgP rt s (zz s0 20 k) ≤ 1000000) (b3 : 0 ≤ hgP rt s (zz s0 19 k)) : a_W d 49 0 [.ref 17, iv (k : Int), .retAddr 0, .retAddr 0] [] (mkH B s l) (fun q => ∃ s1, q = (.inl none, mkH B (zu (zu s1 22 k (min (1 + sgP rt s (zz s0 19 k) + sgP rt s (zz s0 20 k)) 1000000)) 23 k (max (hgP rt s (zz s0 19 k)) (hgP rt s (zz s0 20 k)) + 1)) l) ∧ Hv P s s1) := by
  have z19 : ∀ {s : aZ}, xMB P rt u s0 s → zz s 19 k = zz s0 19 k := fun h => zz_of (h.2.2.1 19 (by decide) (by decide) (by decide) (by decide)) k
  have z20 : ∀ {s : aZ}, xMB P rt u s0 s → zz s 20 k = zz s0 20 k := fun h => zz_of (h.2.2.1 20 (by decide) (by decide) (by decide) (by decide)) k
  have hi : ∀ (s2 : aZ) (x : Int), Hv P s s2 → hgP rt s2 x = hgP rt s x ∧ sgP rt s2 x = sgP rt s x := fun s2 x hv => by
    unfold hgP sgP
    rw [zz_of (hv.k 23 (by decide)), zz_of (hv.k 22 (by decide))]
    exact ⟨rfl, rfl⟩
  -- the second part
  have snd : ∀ (s2 : aZ), Hv P s s2 → a_W d 49 37 [.ref 17, iv (k : Int), iv (1 + sgP rt s (zz s0 19 k)), iv (hgP rt s (zz s0 19 k))] [] (mkH B s2 l) (fun q => ∃ s1, q = (.inl none, mkH B (zu (zu s1 22 k (min (1 + sgP rt s (zz s0 19 k) + sgP rt s (zz s0 20 k)) 1000000)) 23 k (max (hgP rt s (zz s0 19 k)) (hgP rt s (zz s0 20 k)) + 1)) l) ∧ Hv P s s1) := by
    intro s2 hv
    have hm := h.hv hv
    have e20 := z20 hm
    refine w49_37 hB (by omega) _ _ _ s2 l ⟨⟨by omega, by omega⟩, ?_⟩
    rw [natc, e20]
    refine ⟨fun c => ?_, fun c => ?_⟩
    · have q1 : hgP rt s (zz s0 20 k) = 0 := if_pos c
      have q2 : sgP rt s (zz s0 20 k) = 0 := if_pos c
      refine w49_74 hB (by omega) _ _ _ s2 l ⟨⟨by omega, by omega⟩, ⟨by omega, by omega⟩, s2, ?_, hv⟩
      rw [natc, q1, q2, Int.add_zero, show max (hgP rt s (zz s0 19 k)) 0 = hgP rt s (zz s0 19 k) by omega]
    · obtain ⟨y, ey⟩ : ∃ y : Nat, zz s0 20 k = y := ⟨(zz s0 20 k).toNat, by omega⟩
      rw [ey] at h2
      have q1 : hgP rt s (zz s0 20 k) = zz s 23 (rt y) := by unfold hgP; rw [if_neg (by omega), ey, natc]
      have q2 : sgP rt s (zz s0 20 k) = zz s 22 (rt y) := by unfold sgP; rw [if_neg (by omega), ey, natc]
      rw [ey]
      refine a_W.imp (x_sizeU hB (by omega) l hP y (by omega) hm) ?_
      rintro _ ⟨s3, rfl, hv3⟩
      have hm3 := hm.hv hv3
      refine ⟨_, s3, l, rfl, ?_⟩
      rw [z20 hm3, ey]
      refine a_W.imp (x_heightU hB (by omega) l hP y (by omega) hm3) ?_
      rintro _ ⟨s6, rfl, hv6⟩
      have hvv := (hv.tr hv3).tr hv6
      have r1 : zz s2 22 (rt y) = zz s 22 (rt y) := zz_of (hv.k 22 (by decide)) _
      have r2 : zz s3 23 (rt y) = zz s 23 (rt y) := zz_of ((hv.tr hv3).k 23 (by decide)) _
      have ir := inR_zz s 23 (rt y)
      have ih : inR (hgP rt s (zz s0 19 k)) := by
        unfold hgP
        split
        · decide
        · exact inR_zz _ _ _
      refine ⟨_, s6, l, rfl, ih, by rw [r2]; exact ir, w49_74 hB (by omega) _ _ _ s6 l ⟨⟨by rw [r1, ← q2]; omega, by rw [r1, ← q2]; omega⟩, ⟨by omega, by omega⟩, s6, ?_, hvv⟩⟩
      rw [natc, r1, r2, ← q1, ← q2, ey]
  refine w49_0 hB (by omega) _ s l ⟨⟨by omega, by omega⟩, ?_⟩
  rw [natc, z19 h]
  refine ⟨fun c => ?_, fun c => ?_⟩
  · have q1 : hgP rt s (zz s0 19 k) = 0 := if_pos c
    have q2 : sgP rt s (zz s0 19 k) = 0 := if_pos c
    have := snd s (Hv.rf P s)
    rw [q1, q2] at this ⊢
    exact this
  · obtain ⟨y, ey⟩ : ∃ y : Nat, zz s0 19 k = y := ⟨(zz s0 19 k).toNat, by omega⟩
    rw [ey] at h1
    have q1 : hgP rt s (zz s0 19 k) = zz s 23 (rt y) := by unfold hgP; rw [if_neg (by omega), ey, natc]
    have q2 : sgP rt s (zz s0 19 k) = zz s 22 (rt y) := by unfold sgP; rw [if_neg (by omega), ey, natc]
    rw [show (fun (q : aR) => ∃ s1, q = (.inl none, mkH B (zu (zu s1 22 k (min (1 + sgP rt s (zz s0 19 k) + sgP rt s (zz s0 20 k)) 1000000)) 23 k (max (hgP rt s (zz s0 19 k)) (hgP rt s (zz s0 20 k)) + 1)) l) ∧ Hv P s s1) = (fun (q : aR) => ∃ s1, q = (.inl none, mkH B (zu (zu s1 22 k (min (1 + sgP rt s (zz s0 19 k) + sgP rt s (zz s0 20 k)) 1000000)) 23 k (max (hgP rt s (zz s0 19 k)) (hgP rt s (zz s0 20 k)) + 1)) l) ∧ Hv P s s1) from rfl]
    have start : a_W (d - 1) 50 0 [.ref 17, iv (y : Int)] [] (mkH B s l) (fun r => ∃ (v5 : Int) (s3 : Nat → Nat → Int32) (l4 : Nat → Nat → Int64), r = (.inl (some (iv v5)), mkH B s3 l4) ∧ a_W (d - 1) 52 0 [.ref 17, iv (zz s3 19 k)] [] (mkH B s3 l4) (fun r => ∃ (v8 : Int) (s6 : Nat → Nat → Int32) (l7 : Nat → Nat → Int64), r = (.inl (some (iv v8)), mkH B s6 l7) ∧ a_W d 49 37 [.ref 17, iv (k : Int), iv (1 + v5), iv v8] [] (mkH B s6 l7) (fun q => ∃ s1, q = (.inl none, mkH B (zu (zu s1 22 k (min (1 + sgP rt s (zz s0 19 k) + sgP rt s (zz s0 20 k)) 1000000)) 23 k (max (hgP rt s (zz s0 19 k)) (hgP rt s (zz s0 20 k)) + 1)) l) ∧ Hv P s s1))) := by
      refine a_W.imp (x_sizeU hB (by omega) l hP y (by omega) h) ?_
      rintro _ ⟨s3, rfl, hv3⟩
      have hm3 := h.hv hv3
      refine ⟨_, s3, l, rfl, ?_⟩
      rw [z19 hm3, ey]
      refine a_W.imp (x_heightU hB (by omega) l hP y (by omega) hm3) ?_
      rintro _ ⟨s6, rfl, hv6⟩
      refine ⟨_, s6, l, rfl, ?_⟩
      have := snd s6 (hv3.tr hv6)
      rw [q1, q2] at this
      rw [zz_of (hv3.k 23 (by decide)), ← ey, q1, q2]
      exact this
    rw [ey] at start ⊢
    exact start
/-- a part that is not yet measured -/
theorem x_unmeasured (hB : a_Can B) {d : Nat} (hd : 2 ≤ d) (l : aZL) (hP : P ≤ 17000) (k : Nat) (hk : k < P) {s : aZ} (h : xMB P rt u s0 s) (h1 : -1 ≤ zz s0 19 k ∧ zz s0 19 k < P) (h2 : -1 ≤ zz s0 20 k ∧ zz s0 20 k < P) : a_W d 111 0 [.ref 17, iv (k : Int)] [] (mkH B s l) (fun q => ∃ (s2 : aZ) (v : Int), q = (.inl (some (iv v)), mkH B s2 l) ∧ Hv P s s2 ∧ ((v = -1 ∧ (0 ≤ zz s0 19 k → 1 ≤ zz s 23 (rt (zz s0 19 k).toNat)) ∧ (0 ≤ zz s0 20 k → 1 ≤ zz s 23 (rt (zz s0 20 k).toNat))) ∨ (∃ p : Nat, v = p ∧ p < P ∧ rt p = p ∧ zz s 23 p ≤ 0 ∧ xPt rt s0 p k))) := by
  have z19 : ∀ {s : aZ}, xMB P rt u s0 s → zz s 19 k = zz s0 19 k := fun h => zz_of (h.2.2.1 19 (by decide) (by decide) (by decide) (by decide)) k
  have z20 : ∀ {s : aZ}, xMB P rt u s0 s → zz s 20 k = zz s0 20 k := fun h => zz_of (h.2.2.1 20 (by decide) (by decide) (by decide) (by decide)) k
  have snd : ∀ (s2 : aZ), Hv P s s2 → (0 ≤ zz s0 19 k → 1 ≤ zz s 23 (rt (zz s0 19 k).toNat)) → a_W d 111 33 [.ref 17, iv (k : Int)] [] (mkH B s2 l) (fun q => ∃ (s2 : aZ) (v : Int), q = (.inl (some (iv v)), mkH B s2 l) ∧ Hv P s s2 ∧ ((v = -1 ∧ (0 ≤ zz s0 19 k → 1 ≤ zz s 23 (rt (zz s0 19 k).toNat)) ∧ (0 ≤ zz s0 20 k → 1 ≤ zz s 23 (rt (zz s0 20 k).toNat))) ∨ (∃ p : Nat, v = p ∧ p < P ∧ rt p = p ∧ zz s 23 p ≤ 0 ∧ xPt rt s0 p k))) := by
    intro s2 hv hf
    have hm := h.hv hv
    have e20 := z20 hm
    refine w111_33 hB (by omega) _ s2 l ⟨⟨by omega, by omega⟩, ?_⟩
    rw [natc, e20]
    refine ⟨fun c => w111_66 hB _ s2 l ⟨s2, _, rfl, hv, Or.inl ⟨rfl, hf, fun c2 => absurd c2 (by omega)⟩⟩, fun c => ?_⟩
    obtain ⟨y, ey⟩ : ∃ y : Nat, zz s0 20 k = y := ⟨(zz s0 20 k).toNat, by omega⟩
    rw [ey] at h2 ⊢
    refine a_W.imp (x_heightU hB (by omega) l hP y (by omega) hm) ?_
    rintro _ ⟨s3, rfl, hv3⟩
    have hm3 := hm.hv hv3
    have r2 : zz s2 23 (rt y) = zz s 23 (rt y) := zz_of (hv.k 23 (by decide)) _
    refine ⟨_, s3, l, rfl, inR_zz _ _ _, ?_⟩
    rw [r2, z20 hm3, ey]
    refine ⟨fun c1 => w111_66 hB _ s3 l ⟨s3, _, rfl, hv.tr hv3, Or.inl ⟨rfl, hf, fun _ => by rw [natc]; omega⟩⟩, fun c1 => ?_⟩
    refine a_W.imp (x_findU hB l P hP y s3 (by omega) hm3.1 hm3.2.1) ?_
    rintro _ ⟨s8, rfl, hv8⟩
    obtain ⟨g1, g2⟩ := rt_rt hm3.2.1 (show y < P by omega)
    exact ⟨_, s8, l, rfl, s8, _, rfl, (hv.tr hv3).tr hv8, Or.inr ⟨rt y, rfl, g1, g2, c1, Or.inr ⟨by omega, by rw [ey, natc]⟩⟩⟩
  refine w111_0 hB (by omega) _ s l ⟨⟨by omega, by omega⟩, ?_⟩
  rw [natc, z19 h]
  refine ⟨fun c => snd s (Hv.rf P s) (fun c2 => absurd c2 (by omega)), fun c => ?_⟩
  obtain ⟨y, ey⟩ : ∃ y : Nat, zz s0 19 k = y := ⟨(zz s0 19 k).toNat, by omega⟩
  have h1' := h1
  rw [ey] at h1'
  rw [show iv (zz s0 19 k) = iv (y : Int) by rw [ey]]
  refine a_W.imp (x_heightU hB (by omega) l hP y (by omega) h) ?_
  rintro _ ⟨s3, rfl, hv3⟩
  have hm3 := h.hv hv3
  refine ⟨_, s3, l, rfl, inR_zz _ _ _, fun c1 => snd s3 hv3 (fun _ => by rw [ey, natc]; omega), fun c1 => ?_⟩
  rw [z19 hm3, ey]
  refine a_W.imp (x_findU hB l P hP y s3 (by omega) hm3.1 hm3.2.1) ?_
  rintro _ ⟨s8, rfl, hv8⟩
  obtain ⟨g1, g2⟩ := rt_rt hm3.2.1 (show y < P by omega)
  exact ⟨_, s8, l, rfl, s8, _, rfl, hv3.tr hv8, Or.inr ⟨rt y, rfl, g1, g2, c1, Or.inl ⟨by omega, by rw [ey, natc]⟩⟩⟩
end
