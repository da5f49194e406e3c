/-! THE READER'S VERDICT ON A TERM WHOSE SYNTAX IS RIGHT -/
section
variable {B : aH} {P : Nat} {rt u : Nat → Nat} {s0 s2 : aZ}
/-- no circles -/
theorem x_acp (hM : xMB P rt u s0 s2) (hS : PS P s0) (hA : ∀ k, k < P → rt k = k → 1 ≤ zz s2 23 k ∧ xMs rt s0 s2 k) : AcP unX P (vwX s2) rt (fun k => (zz s2 23 k).toNat) := by
  intro r hr h1 _
  have hrr : rt r = r := ((hM.2.1 r hr).2.2.2.2.1 h1).1
  obtain ⟨a1, a2, a3, a4, a5, -⟩ := hA r hr hrr
  have e19 : (vwX s2).2.2.1 r = zz s0 19 r := zz_of (hM.2.2.1 19 (by decide) (by decide) (by decide) (by decide)) r
  have e20 : (vwX s2).2.2.2 r = zz s0 20 r := zz_of (hM.2.2.1 20 (by decide) (by decide) (by decide) (by decide)) r
  rw [e19, e20]
  refine ⟨fun c => ?_, fun c => ?_⟩
  · have h := a4 c
    have q : hgP rt s2 (zz s0 19 r) = zz s2 23 (rt (zz s0 19 r).toNat) := if_neg (by omega)
    rw [q] at a2
    show (zz s2 23 _).toNat < (zz s2 23 r).toNat
    omega
  · have h := a5 c
    have q : hgP rt s2 (zz s0 20 r) = zz s2 23 (rt (zz s0 20 r).toNat) := if_neg (by omega)
    rw [q] at a2
    show (zz s2 23 _).toNat < (zz s2 23 r).toNat
    omega
/-- heights and sizes are those of what nodes resolve to -/
theorem x_szh {ar : Int → Nat} (hE : PE ar P s0 rt u) (hM : xMB P rt u s0 s2) (hA : ∀ k, k < P → rt k = k → 1 ≤ zz s2 23 k ∧ xMs rt s0 s2 k) : ∀ (N : Nat) (x : Int), -1 ≤ x → x < P → (0 ≤ x → (zz s2 23 (rt x.toNat)).toNat < N) → hgP rt s2 x = (hgT (rsT unX (vwX s2) rt N x) : Nat) ∧ sgP rt s2 x = min ((szT (rsT unX (vwX s2) rt N x) : Nat) : Int) 1000000 := by
  intro N
  induction N with
  | zero =>
    intro x h1 h2 h3
    have hx : x < 0 := Decidable.byContradiction (fun c => by have := h3 (by omega); omega)
    exact ⟨if_pos hx, if_pos hx⟩
  | succ N ih =>
    intro x h1 h2 h3
    by_cases hx : x < 0
    · rw [rsT_n _ _ _ _ _ hx]
      exact ⟨if_pos hx, if_pos hx⟩
    · obtain ⟨q1, q2⟩ := rt_rt hM.2.1 (show x.toNat < P by omega)
      have h3 := h3 (by omega)
      obtain ⟨a1, a2, a3, a4, a5, -⟩ := hA _ q1 q2
      have e19 : (vwX s2).2.2.1 (rt x.toNat) = zz s0 19 (rt x.toNat) := zz_of (hM.2.2.1 19 (by decide) (by decide) (by decide) (by decide)) _
      have e20 : (vwX s2).2.2.2 (rt x.toNat) = zz s0 20 (rt x.toNat) := zz_of (hM.2.2.1 20 (by decide) (by decide) (by decide) (by decide)) _
      have e18 : (vwX s2).2.1 (rt x.toNat) = zz s0 18 (rt x.toNat) := zz_of (hM.2.2.1 18 (by decide) (by decide) (by decide) (by decide)) _
      have g1 : hgP rt s2 x = zz s2 23 (rt x.toNat) := if_neg hx
      have g2 : sgP rt s2 x = zz s2 22 (rt x.toNat) := if_neg hx
      have hPr := hE.1.2.2.2 _ q1
      rw [g1, g2, a2, a3, rsT_s, if_neg hx, e18, e19, e20]
      by_cases hu : zz s0 18 (rt x.toNat) = unX
      · rw [if_pos hu]
        obtain ⟨u1, u2⟩ := (hE.2.2.1.2 _ q1).2 hu
        have u1 : zz s0 19 (rt x.toNat) < 0 := u1
        have u2 : zz s0 20 (rt x.toNat) < 0 := u2
        have w1 : hgP rt s2 (zz s0 19 (rt x.toNat)) = 0 := if_pos u1
        have w2 : hgP rt s2 (zz s0 20 (rt x.toNat)) = 0 := if_pos u2
        have w3 : sgP rt s2 (zz s0 19 (rt x.toNat)) = 0 := if_pos u1
        have w4 : sgP rt s2 (zz s0 20 (rt x.toNat)) = 0 := if_pos u2
        rw [w1, w2, w3, w4]
        exact ⟨rfl, rfl⟩
      · rw [if_neg hu]
        have lt : ∀ y : Int, 0 ≤ y → hgP rt s2 y + 1 ≤ zz s2 23 (rt x.toNat) → (zz s2 23 (rt y.toNat)).toNat < N := fun y hy hl => by
          have : hgP rt s2 y = zz s2 23 (rt y.toNat) := if_neg (by omega)
          omega
        obtain ⟨b1, b2⟩ := ih _ hPr.1.1 hPr.1.2 (fun c => lt _ c (by omega))
        obtain ⟨b3, b4⟩ := ih _ hPr.2.1.1 hPr.2.1.2 (fun c => lt _ c (by omega))
        rw [b1, b2, b3, b4]
        refine ⟨?_, ?_⟩
        · show _ = ((1 + max _ _ : Nat) : Int)
          omega
        · show _ = min ((1 + (_ + _) : Nat) : Int) _
          omega
theorem x_isL (hB : a_Can B) {d : Nat} (hd : 2 ≤ d) (l : aZL) (hP : P ≤ 17000) (x : Nat) (hx : x < P) {s : aZ} (h : xMB P rt u s0 s) : a_W d 75 0 [.ref 17, iv (x : Int)] [] (mkH B s l) (fun q => ∃ (s2 : aZ) (v : Int), q = (.inl (some (iv v)), mkH B s2 l) ∧ Hv P s s2 ∧ inR v ∧ (v ≠ 0 ↔ (40 < zz s 22 (rt x) ∨ 12 < zz s 23 (rt x)))) := by
  refine w75_0 hB (by omega) _ s l (a_W.imp (x_sizeU hB (by omega) l hP x hx h) ?_)
  rintro _ ⟨s3, rfl, hv⟩
  have hm3 := h.hv hv
  refine ⟨_, s3, l, rfl, inR_zz _ _ _, fun c => ⟨s3, 1, rfl, hv, by decide, fun _ => Or.inl c, fun _ => by decide⟩, fun c => a_W.imp (x_heightU hB (by omega) l hP x hx hm3) ?_⟩
  rintro _ ⟨s6, rfl, hv6⟩
  have y23 : zz s3 23 (rt x) = zz s 23 (rt x) := zz_of (hv.k 23 (by decide)) _
  refine ⟨_, s6, l, rfl, inR_zz _ _ _, ?_⟩
  rw [y23]
  exact ⟨fun c2 => ⟨s6, 0, rfl, hv.tr hv6, by decide, fun q => absurd rfl q, fun q => by omega⟩, fun c2 => ⟨s6, 1, rfl, hv.tr hv6, by decide, fun _ => Or.inr c2, fun _ => by decide⟩⟩
/-- one of the types is large -/
theorem x_hasL (hB : a_Can B) {d : Nat} (hd : 3 ≤ d) (l : aZL) (hP : P ≤ 17000) (c : Nat) (hc : 1 ≤ c ∧ c ≤ 501) {s : aZ} (h : xMB P rt u s0 s) (hcc : zz s 45 6 = (c : Nat)) (ht : ∀ j, j < c → 0 ≤ zz s 49 j ∧ zz s 49 j < P) : a_W d 112 0 [.ref 45, .retAddr 0] [] (mkH B s l) (fun q => ∃ (s2 : aZ) (v : Int), q = (.inl (some (iv v)), mkH B s2 l) ∧ Hv P s s2 ∧ inR v ∧ (v ≠ 0 ↔ ∃ j, 1 ≤ j ∧ j < c ∧ (40 < zz s 22 (rt (zz s 49 j).toNat) ∨ 12 < zz s 23 (rt (zz s 49 j).toNat)))) := by
  have loop : ∀ (r i : Nat) (s1 : aZ), i + r = c → 1 ≤ i → Hv P s s1 → (∀ j, 1 ≤ j → j < i → ¬ (40 < zz s 22 (rt (zz s 49 j).toNat) ∨ 12 < zz s 23 (rt (zz s 49 j).toNat))) → a_W d 112 2 [.ref 45, iv (i : Int)] [] (mkH B s1 l) (fun q => ∃ (s2 : aZ) (v : Int), q = (.inl (some (iv v)), mkH B s2 l) ∧ Hv P s s2 ∧ inR v ∧ (v ≠ 0 ↔ ∃ j, 1 ≤ j ∧ j < c ∧ (40 < zz s 22 (rt (zz s 49 j).toNat) ∨ 12 < zz s 23 (rt (zz s 49 j).toNat)))) := by
    intro r
    induction r with
    | zero =>
      intro i s1 hi h1 hv hn
      have e : zz s1 45 6 = (c : Nat) := (zz_of (hv.k 45 (by decide)) 6).trans hcc
      refine w112_2 hB (by omega) _ s1 l ⟨⟨by omega, by omega⟩, fun _ => ⟨s1, 0, rfl, hv, by decide, fun q => absurd rfl q, ?_⟩, fun q => absurd q (by omega)⟩
      rintro ⟨j, j1, j2, j3⟩
      exact absurd j3 (hn j j1 (by omega))
    | succ r ih =>
      intro i s1 hi h1 hv hn
      have e : zz s1 45 6 = (c : Nat) := (zz_of (hv.k 45 (by decide)) 6).trans hcc
      have hti := ht i (by omega)
      obtain ⟨ty, ety⟩ : ∃ y : Nat, zz s 49 i = y := ⟨(zz s 49 i).toNat, by omega⟩
      refine w112_2 hB (by omega) _ s1 l ⟨⟨by omega, by omega⟩, fun q => absurd q (by omega), fun _ => ⟨⟨by omega, by omega⟩, ?_⟩⟩
      rw [natc, zz_of (hv.k 49 (by decide)), ety]
      have hm1 := h.hv hv
      refine a_W.imp (x_isL hB (by omega) l hP ty (by omega) hm1) ?_
      rintro _ ⟨s4, v, rfl, hv4, rv, hiff⟩
      rw [zz_of (hv.k 22 (by decide)), zz_of (hv.k 23 (by decide))] at hiff
      refine ⟨_, s4, l, rfl, rv, fun v0 => ?_, fun v1 => ⟨s4, 1, rfl, hv.tr hv4, by decide, fun _ => ⟨i, h1, by omega, by rw [ety, natc]; exact hiff.mp v1⟩, fun _ => by decide⟩⟩
      rw [show (i : Int) + 1 = ((i + 1 : Nat) : Int) by omega]
      refine ih (i + 1) s4 (by omega) (by omega) (hv.tr hv4) (fun j j1 j2 => ?_)
      by_cases ej : j = i
      · rw [ej, ety, natc]
        exact fun q => absurd v0 (hiff.mpr q)
      · exact hn j j1 (by omega)
  exact w112_0 hB s l (loop (c - 1) 1 s (by omega) (by omega) (Hv.rf P s) (fun j j1 j2 => by omega))
end
