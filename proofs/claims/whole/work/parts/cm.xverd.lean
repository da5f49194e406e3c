/-! THE READER'S VERDICT -/
theorem TI.mem {s : aZ} {lo hi : Nat} : ∀ (K : aT) (w : Nat) (L : List Nat), coK K → TI s lo hi K w L → ∀ k ∈ L, ∃ y, lo ≤ y ∧ y < hi ∧ k = (zz s 49 y).toNat := by
  intro K
  induction K with
  | leaf q =>
    rintro w L - ⟨h1, -, -, -, -, rfl⟩ k hk
    exact ⟨w, h1.1, h1.2, List.mem_singleton.mp hk⟩
  | branch m a b iha ihb =>
    intro w L hk h k hm
    rcases hk with ⟨rfl, ka, kb⟩ | ⟨rfl, ka⟩ | ⟨rfl, kb⟩
    · obtain ⟨h1, -, -, wf, wx, Lf, Lx, -, -, h6, h7, rfl⟩ := TI_ap.mp h
      rcases List.mem_cons.mp hm with e | hm
      · exact ⟨w, h1.1, h1.2, e⟩
      · rcases List.mem_append.mp hm with hm | hm
        · exact iha wf Lf ka h6 k hm
        · exact ihb wx Lx kb h7 k hm
    · exact iha w L ka (TI_as.mp h) k hm
    · obtain ⟨h1, -, -, -, wb, Lb, -, h6, rfl⟩ := TI_ab.mp h
      rcases List.mem_cons.mp hm with e | hm
      · exact ⟨w, h1.1, h1.2, e⟩
      · exact ihb wb Lb kb h6 k hm
theorem rsT_of {un : Int} {A A2 : aPl} {rt : Nat → Nat} (e : A2.2 = A.2) : ∀ (N : Nat) (x : Int), rsT un A2 rt N x = rsT un A rt N x := by
  intro N
  induction N with
  | zero => intro x; rfl
  | succ N ih =>
    intro x
    rw [rsT_s, rsT_s, e, ih, ih]
theorem xMB.a2 {P : Nat} {rt u : Nat → Nat} {s0 s : aZ} (h : xMB P rt u s0 s) : (vwX s).2 = (vwX s0).2 := by
  unfold vwX
  refine Prod.ext (funext fun k => ?_) (Prod.ext (funext fun k => ?_) (funext fun k => ?_))
  · exact zz_of (h.2.2.1 18 (by decide) (by decide) (by decide) (by decide)) k
  · exact zz_of (h.2.2.1 19 (by decide) (by decide) (by decide) (by decide)) k
  · exact zz_of (h.2.2.1 20 (by decide) (by decide) (by decide) (by decide)) k
theorem xMB.pe {ar : Int → Nat} {P : Nat} {rt u : Nat → Nat} {s0 s : aZ} (h : xMB P rt u s0 s) (hE : PE ar P s0 rt u) : PE ar P s rt u := by
  have k : ∀ k j, k = 17 ∨ k = 18 ∨ k = 19 ∨ k = 20 → zz s k j = zz s0 k j := fun k j hk => zz_of (h.2.2.1 k (by omega) (by omega) (by omega) (by omega)) j
  obtain ⟨⟨p0, p1, p2, p3⟩, -, g3, g4⟩ := hE
  refine ⟨⟨p0, (k 17 8 (by omega)).trans p1, h.1, fun j hj => ?_⟩, h.2.1, g3.of h.a2, g4.of h.a2⟩
  rw [k 18 j (by omega), k 19 j (by omega), k 20 j (by omega)]
  exact p3 j hj
section
variable {t : Nat → Int} {n : Nat} {ns tn : List (List Int)} {ta : List Int} {cn : List (List Int)} {ct : List aT} {B : aH}
/-- what a node resolves to -/
def rvX (s : aZ) (rt : Nat → Nat) (k : Nat) : aT := rsT unX (vwX s) rt ((zz s 23 (rt k)).toNat + 1) (k : Int)
/-- a term without fault: its tree, its pool -/
def XFl (t : Nat → Int) (n : Nat) (ns tn : List (List Int)) (ta : List Int) (ct : List aT) (K : aT) (P c w : Nat) (s : aZ) : Prop := ∃ (rt u : Nat → Nat) (L : List Nat), PE (arT ta) P s rt u ∧ AcP unX P (vwX s) rt (fun k => (zz s 23 k).toNat) ∧ TI s 1 c K w L ∧ (∀ k ∈ L, k < P) ∧ prR t n ns tn ct K (L.map (rvX s rt)) ∧ ¬ lgR (L.map (rvX s rt))
theorem x_verd (hB : a_Can B) {d : Nat} (hd : 6 ≤ d) (l : aZL) {T : aT} {j w P2 c2 : Nat} {s1 s2 : aZ} (z45 : zz s1 45 7 = 0) (z10 : zz s1 17 10 = 0) (z11 : zz s1 17 11 = 0) (z38 : zz s1 38 9 = 0) (z35 : zz s1 36 5 = 0) (z36 : zz s1 36 6 = 0) (hE : ∃ rt u, PE (arT ta) 1 s1 rt u) (hV : ∀ v, Vl unX 1 (vwX s1) v) (hok : ∃ q, tmOk t n q T) (hX : XTi t n ns tn ta cn ct 1 1 0 0 0 [] (.inr (T, j)) s1 s2 w P2 c2) : a_W d 107 0 [.ref 38, iv (w : Int)] [] (mkH B s2 l) (fun q => ∃ (s3 : aZ) (v : Int), q = (.inl (some (iv v)), mkH B s3 l) ∧ (v = 0 ∨ v = 3 ∨ v = 4 ∨ v = 8) ∧ Vd t n ns tn ta ct T (rsv t n cn T []) v ∧ (∀ k, k ≠ 21 → k ≠ 22 → k ≠ 23 → k ≠ 24 → s3 k = s2 k) ∧ (v = 0 → XFl t n ns tn ta ct (rsv t n cn T []) P2 c2 w s3)) := by
  have hR2 := hX.R
  have h5 := hR2.2.2.2.2.1
  obtain ⟨-, hw, -, -, ⟨T', j', hh, -, ho, hG⟩ | ⟨_, _, hh, -⟩⟩ := hX
  rotate_left
  · cases hh
  cases hh
  -- large
  have big : lgW T (rsv t n cn T []) → a_W d 107 31 [.ref 38, iv (w : Int)] [] (mkH B s2 l) (fun q => ∃ (s3 : aZ) (v : Int), q = (.inl (some (iv v)), mkH B s3 l) ∧ (v = 0 ∨ v = 3 ∨ v = 4 ∨ v = 8) ∧ Vd t n ns tn ta ct T (rsv t n cn T []) v ∧ (∀ k, k ≠ 21 → k ≠ 22 → k ≠ 23 → k ≠ 24 → s3 k = s2 k) ∧ (v = 0 → XFl t n ns tn ta ct (rsv t n cn T []) P2 c2 w s3)) := fun hl => w107_31 hB _ s2 l ⟨s2, 8, rfl, by decide, Or.inl ⟨hl, rfl⟩, fun _ _ _ _ _ => rfl, fun c => absurd c (by decide)⟩
  have large : a_W (d - 1) 108 0 [.ref 45, iv (w : Int)] [] (mkH B s2 l) (fun r => ∃ v : Int, r = (.inl (some (iv v)), mkH B s2 l) ∧ inR v ∧ (v ≠ 0 ↔ (zz s2 45 7 ≠ 0 ∨ 50 < zz s2 50 w))) := by
    refine w108_0 hB _ s2 l ⟨fun c => w108_18 hB _ s2 l ⟨1, rfl, by decide, fun _ => Or.inl c, fun _ => by decide⟩, fun c => ⟨⟨by omega, by omega⟩, ?_⟩⟩
    rw [natc]
    exact ⟨fun c2 => ⟨0, rfl, by decide, fun q => absurd rfl q, fun q => q.elim (fun q => absurd c q) (fun q => by omega)⟩, fun c2 => w108_18 hB _ s2 l ⟨1, rfl, by decide, fun _ => Or.inr c2, fun _ => by decide⟩⟩
  refine w107_0 hB (by omega) _ s2 l (a_W.imp large ?_)
  rintro _ ⟨v3, rfl, r3, hv3⟩
  refine ⟨_, s2, l, rfl, r3, ?_⟩
  by_cases hw5 : 500 < tmW T
  · have o : zz s2 45 7 ≠ 0 := fun e => by
      have := (ho e).2
      omega
    exact ⟨fun _ => big (Or.inl hw5), fun c => absurd c (hv3.mpr (Or.inl o))⟩
  have cs := cs_le T
  have hx := hG ⟨z45, z11, by omega, by omega⟩
  obtain ⟨q0, hok⟩ := hok
  have hrw := rsv_w t n q0 cn T [] hok
  have ck := coK_rsv t n cn T []
  generalize eK : rsv t n cn T [] = K at *
  obtain ⟨⟨a1, a2⟩, ⟨a3, a4⟩, ⟨a5, a6, a7⟩, L, a8, ⟨a9, aC⟩, a10⟩ := hx
  obtain ⟨t1, t2, t3, t4⟩ := TI.top _ _ _ ck a8
  rw [hrw.2.1] at t2
  have e11 : zz s2 17 11 = 0 := a4.trans z11
  rw [z38] at a5
  rw [z36] at a6
  rw [z35] at a7
  refine ⟨fun c => big (Or.inr (Or.inl ?_)), fun c0 => ⟨fun c => big (Or.inr (Or.inr ?_)), fun c1 => ⟨fun _ => ?_, fun c => absurd e11 c⟩⟩⟩
  · rcases hv3.mp c with q | q
    · exact absurd a3 q
    · omega
  · rcases a7.mp c with q | q
    · exact absurd rfl q
    · exact q
  have nl : ¬ lgW T K := by
    rintro (q | q | q)
    · exact hw5 q
    · exact absurd c0 (hv3.mpr (Or.inr (by omega)))
    · exact absurd c1 (a7.mpr (Or.inr q))
  -- names
  refine ⟨fun cu => ?_, fun cu => ?_⟩
  rotate_left
  · have : unK K = true := by
      cases e : unK K with
      | true => rfl
      | false => rw [e] at a5; exact absurd a5 cu
    exact ⟨s2, 4, rfl, by decide, Or.inr ⟨nl, Or.inl ⟨this, rfl⟩⟩, fun _ _ _ _ _ => rfl, fun c => absurd c (by decide)⟩
  have hu : unK K = false := by
    cases e : unK K with
    | false => rfl
    | true => rw [e] at a5; rw [a5] at cu; exact absurd cu (by decide)
  have wrong : ∀ s3 : aZ, (∀ k, k ≠ 21 → k ≠ 22 → k ≠ 23 → k ≠ 24 → s3 k = s2 k) → (bdA t n tn ta K = true ∨ ∀ R, ¬ tyd t n ns tn ct K [] R) → a_W d 107 73 [.ref 38, iv (w : Int)] [] (mkH B s3 l) (fun q => ∃ (s3 : aZ) (v : Int), q = (.inl (some (iv v)), mkH B s3 l) ∧ (v = 0 ∨ v = 3 ∨ v = 4 ∨ v = 8) ∧ Vd t n ns tn ta ct T K v ∧ (∀ k, k ≠ 21 → k ≠ 22 → k ≠ 23 → k ≠ 24 → s3 k = s2 k) ∧ (v = 0 → XFl t n ns tn ta ct K P2 c2 w s3)) := fun s3 hf h => w107_73 hB _ s3 l ⟨s3, 3, rfl, by decide, Or.inr ⟨nl, Or.inr ⟨hu, Or.inl ⟨h, rfl⟩⟩⟩, hf, fun c => absurd c (by decide)⟩
  refine ⟨fun cb => wrong s2 (fun _ _ _ _ _ => rfl) (Or.inl ?_), fun cb => ?_⟩
  · cases e : bdA t n tn ta K with
    | true => rfl
    | false => rw [e] at a6; exact absurd a6 cb
  have hb : bdA t n tn ta K = false := by
    cases e : bdA t n tn ta K with
    | false => rfl
    | true => rw [e] at a6; rw [a6] at cb; exact absurd cb (by decide)
  have hm0 : ∀ v : Nat → aT, (scT s1 0).map v = [] := fun v => rfl
  rcases a10 hu hb hE z10 with ⟨b1, no⟩ | ⟨b1, ⟨rt, u, hE2⟩, sou, com⟩
  · refine ⟨fun _ => wrong s2 (fun _ _ _ _ _ => rfl) (Or.inr (fun R hT => no (fun _ => cNo) R (hV _) hT)), fun c => absurd (b1.symm.trans c) (by decide)⟩
  refine ⟨fun c => absurd b1 c, fun _ => a_W.imp (x_mall hB hE2 hR2.2.1 (by omega) l) ?_⟩
  rintro _ ⟨s11, hM, ⟨rfl, hno⟩ | ⟨rfl, hA⟩⟩
  · refine ⟨_, s11, l, rfl, by decide, fun c => absurd rfl c, fun _ => wrong s11 hM.2.2.1 (Or.inr (fun R hT => ?_))⟩
    obtain ⟨v2, g1, -, -⟩ := com (fun _ => cNo) R (hV _) hT
    exact hno v2 g1
  refine ⟨_, s11, l, rfl, by decide, fun _ => ?_, fun c => absurd c (by decide)⟩
  have k45 : zz s11 45 6 = (c2 : Nat) := (zz_of (hM.2.2.1 45 (by decide) (by decide) (by decide) (by decide)) 6).trans h5.1
  have k49 : ∀ y, zz s11 49 y = zz s2 49 y := fun y => zz_of (hM.2.2.1 49 (by decide) (by decide) (by decide) (by decide)) y
  have hcells := hR2.2.2.2.2.2.2.2.2.1
  refine a_W.imp (x_hasL hB (by omega) l hR2.2.1 c2 ⟨h5.2.1, h5.2.2⟩ hM k45 (fun y hy => by rw [k49]; exact (hcells y hy).2.2)) ?_
  rintro _ ⟨s16, v, rfl, hv, rv, hiff⟩
  have hM16 := hM.hv hv
  have y23 : ∀ k, zz s16 23 k = zz s11 23 k := fun k => zz_of (hv.k 23 (by decide)) k
  have hA16 : ∀ k, k < P2 → rt k = k → 1 ≤ zz s16 23 k ∧ xMs rt s2 s16 k := fun k h1 h2 => by
    obtain ⟨q1, q2⟩ := hA k h1 h2
    exact ⟨by rw [y23]; exact q1, xMs.keep (P := P2) q2 (fun y _ => ⟨y23 y, zz_of (hv.k 22 (by decide)) y⟩) q1⟩
  have hE16 := hM16.pe hE2
  have hac := x_acp hM16 hE2.1 hA16
  have szh : ∀ k, k < P2 → zz s16 23 (rt k) = (hgT (rvX s16 rt k) : Nat) ∧ zz s16 22 (rt k) = min ((szT (rvX s16 rt k) : Nat) : Int) 1000000 := fun k hk => by
    have := x_szh hE2 hM16 hA16 ((zz s16 23 (rt k)).toNat + 1) (k : Int) (by omega) (by omega) (fun _ => by rw [natc]; omega)
    have e1 : hgP rt s16 (k : Int) = zz s16 23 (rt k) := by unfold hgP; rw [if_neg (by omega), natc]
    have e2 : sgP rt s16 (k : Int) = zz s16 22 (rt k) := by unfold sgP; rw [if_neg (by omega), natc]
    rw [e1, e2] at this
    exact this
  have big' : v ≠ 0 ↔ lgR (L.map (rvX s16 rt)) := by
    rw [hiff]
    constructor
    · rintro ⟨y, y1, y2, y3⟩
      rw [k49, ← zz_of (hv.k 22 (by decide)), ← zz_of (hv.k 23 (by decide))] at y3
      have hm := aC y y1 y2
      obtain ⟨e1, e2⟩ := szh _ (a9 _ hm)
      refine ⟨_, List.mem_map.mpr ⟨_, hm, rfl⟩, ?_⟩
      rw [e1, e2] at y3
      omega
    · rintro ⟨τ, hτ, q⟩
      obtain ⟨k, hk, rfl⟩ := List.mem_map.mp hτ
      obtain ⟨y, y1, y2, rfl⟩ := TI.mem K w L ck a8 k hk
      obtain ⟨e1, e2⟩ := szh _ (a9 _ hk)
      refine ⟨y, y1, y2, ?_⟩
      rw [k49, ← zz_of (hv.k 22 (by decide)), ← zz_of (hv.k 23 (by decide)), e1, e2]
      omega
  have hpr : prR t n ns tn ct K (L.map (rvX s16 rt)) := by
    intro X
    constructor
    · rintro ⟨f, rfl⟩
      have hVl := Vl.of hE16.2.1 hE16.2.2.1.1 hE16.2.2.2 hac f
      obtain ⟨-, g2⟩ := sou _ ((hM16.2.2.2 _).mp hVl)
      rw [List.map_map]
      exact g2
    · intro hT
      obtain ⟨v2, g1, -, g3⟩ := com (fun _ => cNo) X (hV _) hT
      have hVl := (hM16.2.2.2 v2).mpr g1
      refine ⟨v2, ?_⟩
      rw [← g3, List.map_map]
      refine List.map_congr_left (fun k hk => ?_)
      have := Vl.inst hE16.2.1 hE16.2.2.1.1 hac hVl ((zz s16 23 (rt k)).toNat + 1) (k : Int) (by omega) (by have := a9 k hk; omega) (fun _ => by rw [natc]; exact Nat.lt_succ_self _)
      rw [ptT_p _ _ (by omega), natc] at this
      exact this
  refine ⟨_, s16, l, rfl, rv, fun v0 => ⟨s16, 0, rfl, by decide, Or.inr ⟨nl, Or.inr ⟨hu, Or.inr ⟨hb, _, hpr, Or.inr ⟨fun q => absurd v0 (big'.mpr q), rfl⟩⟩⟩⟩, hM16.2.2.1, fun _ => ⟨rt, u, L, hE16, hac, ?_, a9, hpr, fun q => absurd v0 (big'.mpr q)⟩⟩, fun v1 => ⟨s16, 8, rfl, by decide, Or.inr ⟨nl, Or.inr ⟨hu, Or.inr ⟨hb, _, hpr, Or.inl ⟨big'.mp v1, rfl⟩⟩⟩⟩, hM16.2.2.1, fun c => absurd c (by decide)⟩⟩
  exact TI.keep (fun k y h1 h2 _ _ => zz_of (hM16.2.2.1 k (by omega) (by omega) (by omega) (by omega)) y) (Nat.le_refl _) (Nat.le_refl _) _ _ _ a8
end
