/-! A TERM IS READ: both agree -/
section
variable {t : Nat → Int} {n : Nat} {ns tn : List (List Int)} {ct : List aT}
theorem tyd_len : ∀ (K : aT) (ρ R : List aT), coK K → tyd t n ns tn ct K ρ R → R.length = tmW K := by
  intro K
  induction K with
  | leaf q =>
    intro ρ R hk h
    rw [(lf_w q hk).1]
    have h : (if q.1 = 4 then R = [ρ.getD q.2 cNo] else if q.1 = 5 then ∃ τ, R = [nsC τ (ct.getD q.2 cNo)] else if q.1 = 6 then ∃ τ, R = [nsC τ (ct.getD 6 cNo)] else False) := h
    split at h
    · rw [h]; rfl
    · split at h
      · obtain ⟨τ, h⟩ := h
        rw [h]; rfl
      · split at h
        · obtain ⟨τ, h⟩ := h
          rw [h]; rfl
        · exact absurd h (fun h => h)
  | branch m a b iha ihb =>
    intro ρ R hk h
    rcases hk with ⟨rfl, ka, kb⟩ | ⟨rfl, ka⟩ | ⟨rfl, kb⟩
    · obtain ⟨τ, Rf, Rx, h1, h2, h3, -⟩ := (tyd_ap _ _ _ _).mp h
      rw [h3, List.length_cons, List.length_append, iha ρ Rf ka h1, ihb ρ Rx kb h2]
      show _ = 1 + (tmW a + tmW b)
      omega
    · exact iha ρ R ka ((tyd_as _ _ _ _).mp h).1
    · obtain ⟨α, Rb, -, h2, h3⟩ := (tyd_ab _ _ _ _).mp h
      rw [h3, List.length_cons, ihb _ Rb kb h2]
      show _ = 1 + tmW b
      omega
end
theorem wrL_rows : ∀ (R : List aT) (sn : List Nat), (wrL R sn).1.length = R.length ∧ ∀ r ∈ (wrL R sn).1, ∃ T ∈ R, r.length = szT T := by
  intro R
  induction R with
  | nil => intro sn; exact ⟨rfl, fun r hr => absurd hr List.not_mem_nil⟩
  | cons T R ih =>
    intro sn
    obtain ⟨h1, h2⟩ := ih (wrT T sn).2
    refine ⟨by show (wrL R (wrT T sn).2).1.length + 1 = R.length + 1; rw [h1], fun r hr => ?_⟩
    rcases List.mem_cons.mp (show r ∈ (wrT T sn).1 :: (wrL R (wrT T sn).2).1 from hr) with e | hr
    · exact ⟨T, List.mem_cons_self, by rw [e]; exact wrT_len T sn⟩
    · obtain ⟨T2, a, b⟩ := h2 r hr
      exact ⟨T2, List.mem_cons_of_mem _ a, b⟩
theorem RwF.hd {cs cr : Nat} {s : aZ} {rs : List (List Int)} {i at' : Nat} (h : RwF cs cr s rs i at') : zz s cs i = (at' : Nat) := by
  cases rs with
  | nil => exact h
  | cons r rs => exact h.1
theorem RwF.sh {s : aZ} : ∀ (rs : List (List Int)) (i at' : Nat), RwF 53 54 s rs i at' → RwF 69 70 s rs i at' → (∀ r ∈ rs, r.length ≤ 40) → ∀ k, k < rs.length → zz s 53 (i + k) = zz s 69 (i + k) ∧ zz s 53 (i + k + 1) = zz s 69 (i + k + 1) ∧ (at' : Int) ≤ zz s 53 (i + k) ∧ zz s 53 (i + k) ≤ zz s 53 (i + k + 1) ∧ zz s 53 (i + k + 1) ≤ at' + 40 * (k + 1) ∧ ∀ j : Nat, zz s 53 (i + k) ≤ j → (j : Int) < zz s 53 (i + k + 1) → zz s 54 j = zz s 70 j := by
  intro rs
  induction rs with
  | nil => intro i at' _ _ _ k hk; exact absurd hk (Nat.not_lt_zero _)
  | cons r rs ih =>
    intro i at' h1 h2 h40 k hk
    obtain ⟨a1, a2, a3⟩ := h1
    obtain ⟨b1, b2, b3⟩ := h2
    have hr := h40 r List.mem_cons_self
    cases k with
    | zero =>
      have c1 := a3.hd
      have c2 := b3.hd
      rw [Nat.add_zero, a1, b1, c1, c2]
      refine ⟨rfl, rfl, by omega, by omega, by omega, fun j g1 g2 => ?_⟩
      obtain ⟨q, rfl⟩ : ∃ q, j = at' + q := ⟨j - at', by omega⟩
      rw [a2 q (by omega), b2 q (by omega)]
    | succ k =>
      have := ih (i + 1) (at' + r.length) a3 b3 (fun r hr => h40 r (List.mem_cons_of_mem _ hr)) k (by rw [List.length_cons] at hk; omega)
      rw [show i + 1 + k = i + (k + 1) by omega] at this
      obtain ⟨d1, d2, d3, d4, d5, d6⟩ := this
      exact ⟨d1, d2, by omega, d4, by omega, d6⟩
theorem a_Sh.keep {s s3 : aZ} (h : a_Sh s) (h51 : zz s3 51 4 = zz s 51 4) (h52 : s3 52 = s 52) (h53 : s3 53 = s 53) (h54 : s3 54 = s 54) (h18 : zz s3 56 18 = zz s 56 18) (h68 : s3 68 = s 68) (h69 : s3 69 = s 69) (h70 : s3 70 = s 70) : a_Sh s3 := by
  obtain ⟨n, a1, a2, a3, a4⟩ := h
  refine ⟨n, a1, h51.trans a2, h18.trans a3, fun i hi => ?_⟩
  rw [zz_of h52, zz_of h53, zz_of h53, zz_of h68, zz_of h69, zz_of h69]
  obtain ⟨b1, b2, b3, b4, b5, b6, b7⟩ := a4 i hi
  refine ⟨b1, b2, b3, b4, b5, b6, fun j g1 g2 => ?_⟩
  rw [zz_of h54, zz_of h70]
  exact b7 j g1 g2
/-- what the call term leaves -/
def TMf (t : Nat → Int) (n : Nat) (vs tn : List (List Int)) (ta : List Int) (cn : List (List Int)) (ct : List aT) (fx j : Nat) (s3 : aZ) (l3 : aZL) : Prop := XTy tn ta s3 ∧ MTy tn ta s3 l3 ∧ XCo cn ct s3 ∧ MCo cn ct fx s3 l3 ∧ MFx ta fx s3 ∧ NT 3 5 6 7 4 10240 3000 (nsT t n vs j) s3 ∧ MV (nsT t n vs j) s3 l3 ∧ (zz s3 1 2 = 0 ∧ zz s3 56 2 = 0) ∧ (zz s3 47 0 = 0 ∧ zz s3 48 0 = 0 ∧ zz s3 49 0 = 0 ∧ zz s3 50 0 = 0) ∧ zz s3 53 0 = 0 ∧ (zz s3 1 10 = zz s3 56 22 ∧ zz s3 1 11 = zz s3 56 23) ∧ a_Sh s3
theorem j20_ok {d L i : Nat} (hd : 420 ≤ d) {xs : Nat → Int32} {Inv : Nat → aH → aZ → aZL → Prop} {B : aH} {s : aZ} {l : aZL} {t : Nat → Int} {n : Nat} {vs tn : List (List Int)} {ta : List Int} {cn : List (List Int)} {ct : List aT} {fx : Nat} (hB : a_BI L i xs B s) (hn : n ≤ 8000) (hf1 : (n : Int) ≤ zz s 1 2) (hf2 : (n : Int) ≤ zz s 56 2) (hb : ∀ j, j < n → zz s 2 j = sb (t j) ∧ zz s 57 j = t j ∧ 0 ≤ t j ∧ t j < 256) (hXc : XCap t n vs) (hMc : MCap t n vs) (hN : NT 3 5 6 7 4 10240 3000 vs s) (hV : MV vs s l) (hX : XTy tn ta s) (hM : MTy tn ta s l) (hta : ∀ i, ta.getD i 0 ≤ 2) (h2a : ta.getD 2 0 = 2) (hXC : XCo cn ct s) (hMC : MCo cn ct fx s l) (hW : ∀ c, c < cn.length → wfC tn.length ta (ct.getD c cNo)) (hFx : MFx ta fx s) (hf0 : 0 < fx) (hcn : CnO cn) (hcp : CnP cn) (hct : CtO ct) (h0 : zz s 47 0 = 0 ∧ zz s 48 0 = 0 ∧ zz s 49 0 = 0 ∧ zz s 50 0 = 0) (h53 : zz s 53 0 = 0) (hSh : a_Sh s)
    (hI : ∀ B3 s3 l3 j, TMf t n vs tn ta cn ct fx j s3 l3 → Inv (i + 1) B3 s3 l3) : a_J d L i xs Inv 20 143 [.ref 0, iv (n : Int), .ref 105, .retAddr 0] [.ref 56, iv (n : Int), .retAddr 0, .retAddr 0] B s l := by
  have hnR : inR (n : Int) := ⟨by omega, by omega⟩
  have h2 : 2 < tn.length := by have := hM.2.2.1; omega
  have hv : ∀ i, 0 ≤ vT t n vs i ∧ vT t n vs i ≤ 20000 := fun i => by
    have a := ixn_rng (nsT t n vs i) (nmT t n (stT t n i))
    have b := (hXc i).1
    unfold vT
    omega
  have hCt : ∀ c, c < cn.length → wfC tn.length ta (ct.getD c cNo) ∧ 0 < (pre (ct.getD c cNo)).length ∧ (pre (ct.getD c cNo)).length ≤ 40 := fun c hc => ⟨hW c hc, (hXC.2.2.2 c hc).1, (hXC.2.2.2 c hc).2.1⟩
  obtain ⟨res, hres⟩ := ptm_fuel t n 30000 0 0 [] noT 0 (by decide) (by decide) (I0D t n 0 0 0 (Or.inl rfl)) (by decide)
  refine w20_0 hB.1 (by omega) _ s l ?_
  refine w21t_0 hB.1 (by omega) _ s l (w22t_0 hB.1 _ s l ⟨hnR, fun h => absurd h (by omega), fun _ => ⟨fun h => absurd h (by omega), fun _ => ⟨1, s, l, rfl, by decide, fun _ => ?_, fun h => absurd h (by decide)⟩⟩⟩)
  refine a_W.imp (x_open hB.1 (by omega) hXc l hn (fun j hj => ⟨(hb j hj).1, (hb j hj).2.2⟩) hN) ?_
  rintro _ ⟨s1, rfl, g1, g2, g3, g4⟩
  refine ⟨s1, l, rfl, ?_⟩
  have k1 : ∀ k, (k = 2 ∨ 8 ≤ k) → s1 k = s k := fun k hk => g4 k (by omega) (by omega) (by omega) (by omega) (by omega) (by omega)
  have z1 : ∀ k j, (k = 2 ∨ 8 ≤ k) → zz s1 k j = zz s k j := fun k j hk => zz_of (k1 k hk) j
  -- the reference's side
  have mside : ∀ (v : Int) (s4 : aZ) (jj : Nat) (hvr : inR v), TmF s1 s4 → NT 3 5 6 7 4 10240 3000 (nsT t n vs jj) s4 → (∀ (q : aR), MTm t n vs tn ta cn ct fx (whR t n res) B s4 (a_up l 105 0 ((Int32.ofInt v).toInt64)) q → ∃ s5 l5, q = (.inl (some (iv v)), mkH B s5 l5) ∧ FrTm s4 s5 (a_up l 105 0 ((Int32.ofInt v).toInt64)) l5 ∧ (zz s5 56 0 = 0 ∧ zz s5 56 2 = 0 ∧ MTy tn ta s5 l5 ∧ MCo cn ct fx s5 l5 ∧ MFx ta fx s5) ∧ MV (nsT t n vs jj) s5 l5 ∧ (zz s5 1 10 = zz s5 56 22 ∧ zz s5 1 11 = zz s5 56 23) ∧ zz s5 53 0 = 0 ∧ a_Sh s5) → (fun r => ∃ (v : Int) (B2 : aH) (s2 : aZ) (l2 : aZL), r = (.inl (some (iv v)), mkH B2 s2 l2) ∧ a_BI L (i + 1) xs B2 s2 ∧ inR v ∧ a_W d 143 0 [.ref 56, iv (n : Int), .retAddr 0, .retAddr 0] [] (mkH B2 s2 l2) (fun r => ∃ (v2 : Int) (B3 : aH) (s3 : aZ) (l3 : aZL), r = (.inl (some (iv v2)), mkH B3 s3 l3) ∧ a_BI L (i + 1) xs B3 s3 ∧ zz s3 56 0 = v ∧ (v = 0 → l3 105 0 = (Int32.ofInt v2).toInt64) ∧ Inv (i + 1) B3 s3 l3)) ((.inl (some (iv 0)), mkH B s4 (a_up l 105 0 ((Int32.ofInt v).toInt64))) : aR) := by
    intro v s4 jj hvr q1 q4 q6
    have kk : ∀ k, (k = 2 ∨ (8 ≤ k ∧ k ≤ 16) ∨ (25 ≤ k ∧ k ≤ 33) ∨ 56 ≤ k) → s4 k = s k := fun k hk => (q1.1 k (by omega)).trans (k1 k (by omega))
    have z56 : ∀ j, zz s4 56 j = zz s 56 j := fun j => zz_of (kk 56 (by decide)) j
    have lk : ∀ k, k ≠ 105 → a_up l 105 0 ((Int32.ofInt v).toInt64) k = l k := fun k hk => by unfold a_up; rw [if_neg hk]
    refine ⟨0, B, s4, _, rfl, hB.up (kk aSc (by decide)), by decide, ?_⟩
    refine a_W.imp (m_term hB.1 (by omega) hMc hv hta h2a hcn hcp hct hCt hn (by rw [z56]; exact hf2) (fun j hj => ⟨(zz_of (kk 57 (by decide)) j).trans (hb j hj).2.1, (hb j hj).2.2⟩) (hV.fr (z56 5) (lk 63 (by decide))) (hM.fr (z56 4) (kk 62 (by decide)) (lk 61 (by decide))) (hMC.fr (z56 3) (z56 17) (kk 59 (by decide)) (kk 60 (by decide)) (fun k h1 h2 j _ => zz_of (kk k (by omega)) j) (lk 58 (by decide))) (fun j hj => (hFx j hj).k (fun c h1 h2 => zz_of (kk c (by omega)) j)) hf0 hres) ?_
    intro q hq
    obtain ⟨s5, l5, rfl, r1, ⟨r2, r3, r4, r5, r6⟩, r7, r8, r9, r10⟩ := q6 q hq
    have k5 : ∀ k, k < 56 → s5 k = s4 k := fun k hk => r1.1 k (by omega) (by omega)
    have hXT4 : XTy tn ta s4 := hX.fr (fun k h1 h2 => kk k (by omega))
    have hXC4 : XCo cn ct s4 := hXC.fr (fun k h1 h2 => kk k (by omega))
    refine ⟨v, B, s5, l5, rfl, hB.up ((r1.1 aSc (by decide) (by decide)).trans (kk aSc (by decide))), r2, fun _ => ?_, hI B s5 l5 jj ⟨hXT4.fr (fun k _ h2 => k5 k (by omega)), r4, hXC4.fr (fun k _ h2 => k5 k (by omega)), r5, r6, q4.fr (zz_of (k5 3 (by decide)) 4) (k5 5 (by decide)) (k5 6 (by decide)) (k5 7 (by decide)) (k5 4 (by decide)), r7, ⟨?_, r3⟩, ?_, r9, r8, r10⟩⟩
    · rw [r1.2 105 (by decide) (by decide)]
      unfold a_up
      simp only [if_true]
    · rw [zz_of (k5 1 (by decide)), q1.2.1 2 (by decide)]
      exact g3
    · rw [zz_of (k5 47 (by decide)), zz_of (k5 48 (by decide)), zz_of (k5 49 (by decide)), zz_of (k5 50 (by decide))]
      exact q1.2.2
  -- what is shown stays
  have shk : ∀ (s4 s5 : aZ) (l4 l5 : aZL), TmF s1 s4 → FrTm s4 s5 l4 l5 → (∀ k, 51 ≤ k → k ≤ 55 → s4 k = s1 k) → KpS s4 s5 → zz s5 53 0 = 0 ∧ a_Sh s5 := fun s4 s5 l4 l5 q1 r1 q2 r2 => by
    have k5 : ∀ k, 51 ≤ k → k ≤ 55 → s5 k = s k := fun k h1 h2 => (r1.1 k (by omega) (by omega)).trans ((q2 k h1 h2).trans (k1 k (by omega)))
    have kk : ∀ k, 56 ≤ k → s4 k = s k := fun k hk => (q1.1 k (by omega)).trans (k1 k (by omega))
    exact ⟨(zz_of (k5 53 (by decide) (by decide)) 0).trans h53, hSh.keep (zz_of (k5 51 (by decide) (by decide)) 4) (k5 52 (by decide) (by decide)) (k5 53 (by decide) (by decide)) (k5 54 (by decide) (by decide)) (r2.2.2.2.trans (zz_of (kk 56 (by decide)) 18)) (r2.1.trans (kk 68 (by decide))) (r2.2.1.trans (kk 69 (by decide))) (r2.2.2.1.trans (kk 70 (by decide)))⟩
  have xk : ∀ (s4 s5 : aZ) (l4 l5 : aZL), FrTm s4 s5 l4 l5 → ∀ j, zz s5 1 j = zz s4 1 j := fun s4 s5 l4 l5 r j => zz_of (r.1 1 (by decide) (by decide)) j
  have go : ∀ q, TmX t n vs tn ta cn ct (whR t n res) B s1 l q → (fun r => (∃ (v3 : Int) (s1 : Nat → Nat → Int32) (l2 : Nat → Nat → Int64), r = (.inl (some (iv v3)), mkH B s1 l2) ∧ (fun r => ∃ (v : Int) (B2 : aH) (s2 : aZ) (l2 : aZL), r = (.inl (some (iv v)), mkH B2 s2 l2) ∧ a_BI L (i + 1) xs B2 s2 ∧ inR v ∧ a_W d 143 0 [.ref 56, iv (n : Int), .retAddr 0, .retAddr 0] [] (mkH B2 s2 l2) (fun r => ∃ (v2 : Int) (B3 : aH) (s3 : aZ) (l3 : aZL), r = (.inl (some (iv v2)), mkH B3 s3 l3) ∧ a_BI L (i + 1) xs B3 s3 ∧ zz s3 56 0 = v ∧ (v = 0 → l3 105 0 = (Int32.ofInt v2).toInt64) ∧ Inv (i + 1) B3 s3 l3)) ((.inl (some (iv 0)), (mkH B s1 (a_up l2 105 0 ((Int32.ofInt v3).toInt64)))) : aR)) ∨ (∃ (ci : Nat) (h2 : aH), r = (.inr ci, h2) ∧ (fun r => ∃ (v : Int) (B2 : aH) (s2 : aZ) (l2 : aZL), r = (.inl (some (iv v)), mkH B2 s2 l2) ∧ a_BI L (i + 1) xs B2 s2 ∧ inR v ∧ a_W d 143 0 [.ref 56, iv (n : Int), .retAddr 0, .retAddr 0] [] (mkH B2 s2 l2) (fun r => ∃ (v2 : Int) (B3 : aH) (s3 : aZ) (l3 : aZL), r = (.inl (some (iv v2)), mkH B3 s3 l3) ∧ a_BI L (i + 1) xs B3 s3 ∧ zz s3 56 0 = v ∧ (v = 0 → l3 105 0 = (Int32.ofInt v2).toInt64) ∧ Inv (i + 1) B3 s3 l3)) ((.inl (some (iv 1)), h2) : aR))) q := by
    rintro q ⟨s4, q1, ⟨f, j, hR, rfl, hF, hk⟩ | ⟨T, j, hR, ⟨fv, hfv, hVd, rfl, hF, hk⟩ | ⟨hVd, R0, hpr, rfl, hC, hS⟩⟩⟩
    · refine Or.inl ⟨_, s4, l, rfl, mside (-1) s4 (j + 1) (by decide) q1 hF.2.2.2.2.2 ?_⟩
      rintro q ⟨s5, l5, r1, r2, ⟨f2, j2, hR2, rfl, y1, y2, y3, y4⟩ | ⟨T2, j2, hR2, -⟩⟩
      · rw [hR] at hR2
        cases hR2
        have hs := shk s4 s5 _ l5 q1 r1 hk y4
        exact ⟨s5, l5, rfl, r1, r2, y3, ⟨(xk _ _ _ _ r1 10).trans (hF.2.2.1.trans y1.symm), (xk _ _ _ _ r1 11).trans (hF.2.2.2.1.trans y2.symm)⟩, hs.1, hs.2⟩
      · rw [hR] at hR2
        cases hR2
    · refine Or.inl ⟨_, s4, l, rfl, mside (-1) s4 (j + 1) (by decide) q1 hF.2.2.2.2.2 ?_⟩
      rintro q ⟨s5, l5, r1, r2, ⟨f2, j2, hR2, -⟩ | ⟨T2, j2, hR2, y3, ⟨fv2, hfv2, hVd2, rfl, y1, y2, y4⟩ | ⟨hVd2, -⟩⟩⟩
      · rw [hR] at hR2
        cases hR2
      · rw [hR] at hR2
        cases hR2
        have e := hVd.one hVd2
        have hs := shk s4 s5 _ l5 q1 r1 hk y4
        exact ⟨s5, l5, rfl, r1, r2, y3, ⟨(xk _ _ _ _ r1 10).trans (hF.2.2.1.trans (e.trans y1.symm)), (xk _ _ _ _ r1 11).trans (hF.2.2.2.1.trans y2.symm)⟩, hs.1, hs.2⟩
      · rw [hR] at hR2
        cases hR2
        exact absurd (hVd.one hVd2) hfv
    · have hw5 : tmW T ≤ 500 := by
        rcases hVd with ⟨-, e⟩ | ⟨nl, -⟩
        · exact absurd e (by decide)
        · exact Decidable.byContradiction (fun c => nl (Or.inl (by omega)))
      refine Or.inl ⟨_, s4, l, rfl, mside (tmW T : Int) s4 (j + 1) ⟨by omega, by omega⟩ q1 hC.2.2.2.2.2.2.2.1 ?_⟩
      rintro q ⟨s5, l5, r1, r2, ⟨f2, j2, hR2, -⟩ | ⟨T2, j2, hR2, y3, ⟨fv2, hfv2, hVd2, -⟩ | ⟨hVd2, R1, hpr1, rfl, y1, y2, hS2⟩⟩⟩
      · rw [hR] at hR2
        cases hR2
      · rw [hR] at hR2
        cases hR2
        exact absurd (hVd2.one hVd) hfv2
      · rw [hR] at hR2
        cases hR2
        obtain ⟨e0, e1, e2⟩ := rows_eq (R1 := R0) (R2 := R1) (fun X => (hpr X).trans (hpr1 X).symm)
        rw [← e0] at hS2
        have k5 : ∀ k, 51 ≤ k → k ≤ 55 → s5 k = s4 k := fun k h1 h2 => r1.1 k (by omega) (by omega)
        obtain ⟨a1, a2, a3⟩ := hS
        obtain ⟨b1, b2, b3⟩ := hS2
        have a3' : RwF 53 54 s5 (wrL R0 []).1 0 0 := by
          have : ∀ (rs : List (List Int)) (i at' : Nat), RwF 53 54 s4 rs i at' → RwF 53 54 s5 rs i at' := by
            intro rs
            induction rs with
            | nil => intro i at' h; exact (zz_of (k5 53 (by decide) (by decide)) i).trans h
            | cons r rs ih => intro i at' h; exact ⟨(zz_of (k5 53 (by decide) (by decide)) i).trans h.1, fun k hk => (zz_of (k5 54 (by decide) (by decide)) _).trans (h.2.1 k hk), ih _ _ h.2.2⟩
          exact this _ _ _ a3
        -- no type is large
        have nlg : ¬ lgR R0 := by
          rcases hVd with ⟨-, e⟩ | ⟨-, ⟨-, e⟩ | ⟨-, ⟨-, e⟩ | ⟨-, R2, hp2, ⟨-, e⟩ | ⟨nl, -⟩⟩⟩⟩
          · exact absurd e (by decide)
          · exact absurd e (by decide)
          · exact absurd e (by decide)
          · exact absurd e (by decide)
          · obtain ⟨-, c1, c2⟩ := rows_eq (R1 := R0) (R2 := R2) (fun X => (hpr X).trans (hp2 X).symm)
            exact fun h => nl (lg_map c1 c2 h)
        have ck := coK_rsv t n cn T []
        obtain ⟨w1, w2⟩ := wrL_rows R0 []
        have hok : ∃ q, tmOk t n q T := by
          have hw : whR t n res = .inr (T, j) := hR
          cases res with
          | inl e => cases hw
          | inr q =>
            have hw : (if kdT t n q.2 = 0 then .inr q else .inl (2, q.2) : (Int × Nat) ⊕ (aT × Nat)) = .inr (T, j) := hw
            split at hw
            · cases hw
              have hTR := ptm_R t n 30000 0 0 [] noT 0 _ (by decide) (by decide) (I0D t n 0 0 0 (Or.inl rfl)) hres
              exact ⟨_, hTR.2.2.2.2.1.1⟩
            · cases hw
        obtain ⟨q0, hok⟩ := hok
        have wK := (rsv_w t n q0 cn T [] hok).1
        have hlen : R0.length = tmW T := by
          have := tyd_len _ _ _ ck ((hpr (R0.map (sbT vrT))).mp ⟨vrT, rfl⟩)
          rw [List.length_map] at this
          omega
        have sl := syK_len (rsv t n cn T []) ck
        have sh := RwF.sh (wrL R0 []).1 0 0 a3' b3 (fun r hr => by
          obtain ⟨τ, h1, h2⟩ := w2 r hr
          rw [h2]
          exact Decidable.byContradiction (fun c => nlg ⟨τ, h1, Or.inl (by omega)⟩))
        refine ⟨s5, l5, rfl, r1, r2, y3, ⟨(xk _ _ _ _ r1 10).trans (hC.2.1.trans y1.symm), (xk _ _ _ _ r1 11).trans (hC.2.2.1.trans y2.symm)⟩, a3'.hd, tmW T, hw5, (zz_of (k5 51 (by decide) (by decide)) 4).trans (by rw [a1, sl, wK]), by rw [b1, sl, wK], fun i hi => ?_⟩
        have hi' := sh i (by omega)
        rw [Nat.zero_add] at hi'
        obtain ⟨d1, d2, d3, d4, d5, d6⟩ := hi'
        refine ⟨?_, d1, d2, by omega, d4, by omega, d6⟩
        rw [zz_of (k5 52 (by decide) (by decide)), a2 i (by omega), b2 i (by omega)]
  refine a_W.imp (x_tmid hB.1 hXc hta h2 h2a hW hcn 30000 (d - 1) (by omega) res hres (n : Int) s1 l g1 g2 (hX.fr (fun k h1 h2 => k1 k (by omega))) (hXC.fr (fun k h1 h2 => k1 k (by omega))) (by rw [z1 47 0 (by omega), z1 48 0 (by omega), z1 49 0 (by omega), z1 50 0 (by omega)]; exact h0) ((z1 53 0 (by omega)).trans h53)) ?_
  rintro _ ⟨s8, l9, rfl, h⟩
  refine ⟨s8, l9, rfl, a_W.imp h ?_⟩
  rintro _ ⟨s10, l11, rfl, h⟩
  refine ⟨s10, l11, rfl, a_W.imp h ?_⟩
  rintro _ ⟨s12, l13, rfl, h⟩
  refine ⟨s12, l13, rfl, a_W.imp h ?_⟩
  rintro _ ⟨v14, s14, l15, rfl, h⟩
  refine ⟨v14, s14, l15, rfl, a_W.imp h ?_⟩
  rintro _ ⟨s17, l18, rfl, h1, h2⟩
  refine ⟨s17, l18, rfl, fun c => a_W.imp (h1 c) go, fun c => a_W.imp (h2 c) ?_⟩
  rintro _ ⟨v18, s16, l17, rfl, h⟩
  refine ⟨v18, s16, l17, rfl, a_W.imp h ?_⟩
  rintro _ ⟨s19, l20, rfl, h⟩
  exact ⟨s19, l20, rfl, a_W.imp h go⟩
