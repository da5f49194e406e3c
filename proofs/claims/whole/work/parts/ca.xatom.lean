/-! THE READER READS ATOMS -/
theorem z96_0 (k : Int) : 0 ≤ z96 k := by unfold z96; omega
section
variable {t : Nat → Int} {n : Nat} {ns tn : List (List Int)} {ta : List Int} {cn : List (List Int)} {ct : List aT} {B : aH}
/-- the names in scope -/
def XEn (t : Nat → Int) (n : Nat) (s : aZ) (sc : Nat) (env : List (List Int)) : Prop := ∃ es, XSc t n s es sc ∧ (zz s 45 7 = 0 → env = es.map (nmK t n))
theorem XEn.fr {c sc sc2 wc : Nat} {env : List (List Int)} {s s2 : aZ} (h : XEn t n s sc env) (f : XFr c sc2 wc s s2) (hs : sc ≤ sc2) (hm : zz s 45 7 ≠ 0 → zz s2 45 7 ≠ 0) : XEn t n s2 sc env := by
  obtain ⟨es, h1, h2⟩ := h
  exact ⟨es, XSc.keep es sc (fun j hj => ⟨f.2.2.2.2.1 40 j (by decide) (by decide) (by omega), f.2.2.2.2.1 41 j (by decide) (by decide) (by omega)⟩) h1, fun e => h2 (Decidable.byContradiction (fun c => hm c e))⟩
theorem XEn.x {sc : Nat} {env : List (List Int)} {s s2 : aZ} (h : XEn t n s sc env) (f : FrX s s2) : XEn t n s2 sc env := h.fr (f.lo.fr 0 sc 0) (Nat.le_refl _) (by rw [zz_of (f.hi 45 (by decide)) 7]; exact id)
/-- what reading a term comes to -/
def XTi (t : Nat → Int) (n : Nat) (ns tn : List (List Int)) (ta : List Int) (cn : List (List Int)) (ct : List aT) (P c sc wc i : Nat) (env : List (List Int)) (res : (Int × Nat) ⊕ (aT × Nat)) (s s2 : aZ) (w P2 c2 : Nat) : Prop := (∃ W, (wc ≤ W ∧ (W = wc ∨ ∃ e, res = .inl e)) ∧ XRs tn ta cn ct P2 c2 sc W s2) ∧ w < c2 ∧ XFr c sc wc s s2 ∧ XMo P c P2 c2 s s2 ∧ ((∃ T j, res = .inr (T, j) ∧ XAt t n ns j s2 ∧ (zz s2 45 7 = 0 → zz s 45 7 = 0 ∧ c2 = c + tmW T) ∧ (G1 s P c sc i T → RX t n ns tn ta ct (scT s sc) (rsv t n cn T env) i j s P c s2 P2 c2 w)) ∨ (∃ f j, res = .inl (f, j) ∧ XFt t n ns f j s2))
def XTo (t : Nat → Int) (n : Nat) (ns tn : List (List Int)) (ta : List Int) (cn : List (List Int)) (ct : List aT) (P c sc wc i : Nat) (env : List (List Int)) (res : (Int × Nat) ⊕ (aT × Nat)) (B : aH) (s : aZ) (l : aZL) (q : aR) : Prop := ∃ (s2 : aZ) (w P2 c2 : Nat), q = (.inl (some (iv (w : Int))), mkH B s2 l) ∧ XTi t n ns tn ta cn ct P c sc wc i env res s s2 w P2 c2
theorem XRs.x {P c sc wc : Nat} {s s2 : aZ} (h : XRs tn ta cn ct P c sc wc s) (f : FrX s s2) : XRs tn ta cn ct P c sc wc s2 := h.lo f.lo (f.ps h.1) (Nat.le_refl _) h.2.1
theorem XTi.R {P c sc wc i : Nat} {env : List (List Int)} {q : aT × Nat} {s s2 : aZ} {w P2 c2 : Nat} (h : XTi t n ns tn ta cn ct P c sc wc i env (.inr q) s s2 w P2 c2) : XRs tn ta cn ct P2 c2 sc wc s2 := by
  obtain ⟨⟨W, ⟨-, rfl | ⟨e, he⟩⟩, hr⟩, -⟩ := h
  · exact hr
  · cases he
theorem XFr.wm {c sc wc wc2 : Nat} {s s2 : aZ} (h : XFr c sc wc2 s s2) (hw : wc ≤ wc2) : XFr c sc wc s s2 := (XFr.rf c sc wc s).tr h ⟨Nat.le_refl _, Nat.le_refl _, hw⟩
theorem XTi.pre {P c sc wc i i2 : Nat} {env : List (List Int)} {res : (Int × Nat) ⊕ (aT × Nat)} {s s1 s2 : aZ} {w P2 c2 : Nat} (f : FrX s s1) (hi : i ≤ i2) (h : XTi t n ns tn ta cn ct P c sc wc i2 env res s1 s2 w P2 c2) : XTi t n ns tn ta cn ct P c sc wc i env res s s2 w P2 c2 := by
  obtain ⟨h1, h2, h3, h4, h5⟩ := h
  have e45 : zz s1 45 7 = zz s 45 7 := zz_of (f.hi 45 (by decide)) 7
  have e17 : ∀ j, zz s1 17 j = zz s 17 j := fun j => zz_of (f.hi 17 (by decide)) j
  have esc : scT s1 sc = scT s sc := scT.keep sc (fun j _ => zz_of (f.hi 42 (by decide)) j)
  refine ⟨h1, h2, (f.lo.fr c sc wc).tr h3 XFrr, ⟨h4.1, h4.2.1, fun e => h4.2.2.1 (by rw [e45]; exact e), fun e => h4.2.2.2 (by rw [e17]; exact e)⟩, ?_⟩
  rcases h5 with ⟨T, j, e, a1, a2, a3⟩ | h5
  · refine Or.inl ⟨T, j, e, a1, fun e => by rw [← e45]; exact a2 e, fun hG => ?_⟩
    obtain ⟨g1, g2, g3, g4⟩ := hG
    have := a3 ⟨e45.trans g1, (e17 11).trans g2, g3, by omega⟩
    rw [esc] at this
    exact (this.fm f.se).ij (by omega)
  · exact Or.inr h5
theorem XTi.suf {P c sc wc i j j2 : Nat} {env : List (List Int)} {T : aT} {s s2 s3 : aZ} {w P2 c2 : Nat} (h : XTi t n ns tn ta cn ct P c sc wc i env (.inr (T, j)) s s2 w P2 c2) (f : FrX s2 s3) (hj : j ≤ j2) (hA : XAt t n ns j2 s3) : XTi t n ns tn ta cn ct P c sc wc i env (.inr (T, j2)) s s3 w P2 c2 := by
  have h1 := h.R
  obtain ⟨-, h2, h3, h4, h5⟩ := h
  have e45 : zz s3 45 7 = zz s2 45 7 := zz_of (f.hi 45 (by decide)) 7
  refine ⟨⟨wc, ⟨Nat.le_refl _, Or.inl rfl⟩, h1.x f⟩, h2, h3.tr (f.lo.fr c sc wc) XFrr, ⟨h4.1, h4.2.1, fun e => by rw [e45]; exact h4.2.2.1 e, fun e => by rw [zz_of (f.hi 17 (by decide)) 10]; exact h4.2.2.2 e⟩, ?_⟩
  rcases h5 with ⟨T', j', e, a1, a2, a3⟩ | ⟨f', j', e, -⟩
  · cases e
    exact Or.inl ⟨T, j2, rfl, hA, fun e => a2 (by rw [← e45]; exact e), fun hG => ((a3 hG).to f.se).ij (by omega)⟩
  · cases e
theorem XTi.die {P c sc wc i j : Nat} {env : List (List Int)} {res : (Int × Nat) ⊕ (aT × Nat)} {e : Int} {s s2 s3 : aZ} {w P2 c2 : Nat} (h : XTi t n ns tn ta cn ct P c sc wc i env res s s2 w P2 c2) (f : FrX s2 s3) (hF : XFt t n ns e j s3) : XTi t n ns tn ta cn ct P c sc wc i env (.inl (e, j)) s s3 w P2 c2 := by
  obtain ⟨⟨W, hW, h1⟩, h2, h3, h4, -⟩ := h
  have e45 : zz s3 45 7 = zz s2 45 7 := zz_of (f.hi 45 (by decide)) 7
  exact ⟨⟨W, ⟨hW.1, Or.inr ⟨_, rfl⟩⟩, h1.x f⟩, h2, h3.tr (f.lo.fr c sc wc) XFrr, ⟨h4.1, h4.2.1, fun e => by rw [e45]; exact h4.2.2.1 e, fun e => by rw [zz_of (f.hi 17 (by decide)) 10]; exact h4.2.2.2 e⟩, Or.inr ⟨e, j, rfl, hF⟩⟩
/-- nothing is made: a fault -/
theorem XTi.nil {P c sc wc i j : Nat} {env : List (List Int)} {e : Int} {s s2 : aZ} (hR : XRs tn ta cn ct P c sc wc s) (f : FrX s s2) (hF : XFt t n ns e j s2) : XTi t n ns tn ta cn ct P c sc wc i env (.inl (e, j)) s s2 0 P c := by
  have e45 : zz s2 45 7 = zz s 45 7 := zz_of (f.hi 45 (by decide)) 7
  have h5 := hR.2.2.2.2.1
  exact ⟨⟨wc, ⟨Nat.le_refl _, Or.inl rfl⟩, hR.x f⟩, by omega, f.lo.fr c sc wc, ⟨Nat.le_refl _, Nat.le_refl _, fun e => by rw [e45]; exact e, fun e => by rw [zz_of (f.hi 17 (by decide)) 10]; exact e⟩, Or.inr ⟨e, j, rfl, hF⟩⟩
theorem XTi.no {P c sc wc i : Nat} {env : List (List Int)} {T K : aT} {s s2 : aZ} {w P2 c2 : Nat} (hi : i ≤ 6000) (hA : XAt t n ns i s) (hK : tmW K = tmW T ∧ csT K = csT T) (eK : K = rsv t n cn T env) (h : XRs tn ta cn ct P2 c2 sc wc s2 ∧ XFr c sc wc s s2 ∧ XMo P c P2 c2 s s2 ∧ w < c2 ∧ (∀ k, k ≤ 7 → s2 k = s k) ∧ (zz s2 45 7 = 0 → zz s 45 7 = 0 ∧ c2 = c + tmW K) ∧ (zz s 45 7 = 0 → c + tmW K ≤ 501 → P + csT K ≤ 17000 → ∀ i, RX t n ns tn ta ct (scT s sc) K i i s P c s2 P2 c2 w)) : XTi t n ns tn ta cn ct P c sc wc i env (.inr (T, i)) s s2 w P2 c2 := by
  obtain ⟨h1, h2, h3, h4, h5, h6, h7⟩ := h
  rw [hK.1] at h6
  rw [hK.1, hK.2] at h7
  refine ⟨⟨wc, ⟨Nat.le_refl _, Or.inl rfl⟩, h1⟩, h4, h2, h3, Or.inl ⟨T, i, rfl, hA.keep h5, h6, fun hG => ?_⟩⟩
  obtain ⟨g1, g2, g3, g4⟩ := hG
  rw [← eK]
  exact h7 g1 (by omega) (by omega) i
/-- behind a fault nothing is read -/
theorem x_tatomF (hB : a_Can B) {d : Nat} (hd : 5 ≤ d) (l : aZL) (x1 : Int) {f : Int} {i : Nat} {s : aZ} (h : XFt t n ns f i s) : a_W d 93 0 [.ref 38, iv x1, .retAddr 0] [] (mkH B s l) (fun q => q = (.inl (some (iv 0)), mkH B s l)) := by
  have k0 := h.k0
  refine w93_0 hB (by omega) _ s l ⟨fun _ => ⟨fun _ => ⟨fun _ => ?_, fun c => absurd (k0.symm.trans c) (by decide)⟩, fun c => absurd (k0.symm.trans c) (by decide)⟩, fun c => absurd (k0.symm.trans c) (by decide)⟩
  refine a_W.imp (x_expect_f hB (by omega) l 1 (by decide) h) ?_
  rintro _ rfl
  exact ⟨s, l, rfl, rfl⟩
theorem x_toperF (hB : a_Can B) {d : Nat} (hd : 7 ≤ d) (l : aZL) (x1 : Int) {f : Int} {i : Nat} {s : aZ} (h : XFt t n ns f i s) : a_W d 58 34 [.ref 38, iv x1, iv 0, .retAddr 0, .retAddr 0] [] (mkH B s l) (fun q => q = (.inl (some (iv 0)), mkH B s l)) := by
  have k0 := h.k0
  refine w58_34 hB (by omega) _ _ s l ⟨fun _ => ?_, fun c => absurd (by rw [k0]; decide) c⟩
  refine w92_0 hB (by omega) _ s l (a_W.imp (x_tatomF hB (by omega) l x1 h) ?_)
  rintro _ rfl
  refine ⟨_, s, l, rfl, w92_8 hB (by omega) _ _ _ s l ⟨by decide, fun c => absurd c (by decide), fun _ => ⟨fun _ => ?_, fun c => absurd (by rw [k0]; decide) c⟩⟩⟩
  refine w92_48 hB _ _ _ s l ⟨_, s, l, rfl, w58_64 hB (by omega) _ _ _ _ s l ⟨by decide, by decide, fun _ => rfl, fun c => absurd c (by decide)⟩⟩
theorem x_termF (hB : a_Can B) {d : Nat} (hd : 8 ≤ d) (l : aZL) (x1 : Int) {f : Int} {i wc : Nat} {s : aZ} (h : XFt t n ns f i s) (h8 : zz s 38 8 = (wc : Nat)) : a_W d 57 0 [.ref 38, iv x1, .retAddr 0, .retAddr 0, .retAddr 0, .retAddr 0] [] (mkH B s l) (fun q => q = (.inl (some (iv 0)), mkH B s l)) := by
  have k0 := h.k0
  have r8 := inR_zz s 38 8
  refine w57_0 hB (by omega) _ s l (w58_0 hB _ s l (w58_2 hB (by omega) _ _ s l ⟨by decide, fun c => absurd c (by decide), fun _ => ⟨fun _ => a_W.imp (x_toperF hB (by omega) l x1 h) ?_, fun c => absurd (k0.symm.trans c) (by decide)⟩⟩))
  rintro _ rfl
  refine ⟨_, s, l, rfl, w57_14 hB (by omega) _ _ _ _ _ s l ⟨by decide, fun c => absurd c (by decide), fun _ => ⟨fun _ => ?_, fun c => absurd c (by rw [k0]; decide)⟩⟩⟩
  refine w57_132 hB (by omega) _ _ _ _ _ s l (w103_0 hB _ _ _ s l (w103_3 hB (by omega) _ _ _ _ s l ⟨r8, fun _ => w103_62 hB _ _ _ _ s l ⟨_, s, l, rfl, rfl⟩, fun c => absurd c (by omega)⟩))
/-- is it one sign and ) -/
theorem x_lone95 (hB : a_Can B) {d : Nat} (hd : 3 ≤ d) (l : aZL) {j : Nat} {s : aZ} (hA : XAt t n ns j s) : a_W d 95 0 [.ref 38, .retAddr 0] [] (mkH B s l) (fun q => ∃ v : Int, q = (.inl (some (iv v)), mkH B s l) ∧ inR v ∧ (v ≠ 0 ↔ (ftT t n j = 0 ∧ (z96 (kdT t n j) ≠ 0 ∨ (10 ≤ kdT t n j ∧ kdT t n j ≤ 13 ∧ stT t n (j + 1) < n ∧ t (stT t n (j + 1)) = 41))))) := by
  by_cases h0 : ftT t n j = 0
  · have k6 := hA.k6 h0
    have hC := hA.1 h0
    have yes : ∀ s', s' = s → (ftT t n j = 0 ∧ (z96 (kdT t n j) ≠ 0 ∨ (10 ≤ kdT t n j ∧ kdT t n j ≤ 13 ∧ stT t n (j + 1) < n ∧ t (stT t n (j + 1)) = 41))) → ∃ v : Int, ((.inl (some (iv 1)), mkH B s' l) : aR) = (.inl (some (iv v)), mkH B s l) ∧ inR v ∧ (v ≠ 0 ↔ (ftT t n j = 0 ∧ (z96 (kdT t n j) ≠ 0 ∨ (10 ≤ kdT t n j ∧ kdT t n j ≤ 13 ∧ stT t n (j + 1) < n ∧ t (stT t n (j + 1)) = 41)))) := by
      rintro _ rfl h
      exact ⟨1, rfl, by decide, fun _ => h, fun _ => by decide⟩
    have no : ∀ s', s' = s → ¬ (ftT t n j = 0 ∧ (z96 (kdT t n j) ≠ 0 ∨ (10 ≤ kdT t n j ∧ kdT t n j ≤ 13 ∧ stT t n (j + 1) < n ∧ t (stT t n (j + 1)) = 41))) → ∃ v : Int, ((.inl (some (iv 0)), mkH B s' l) : aR) = (.inl (some (iv v)), mkH B s l) ∧ inR v ∧ (v ≠ 0 ↔ (ftT t n j = 0 ∧ (z96 (kdT t n j) ≠ 0 ∨ (10 ≤ kdT t n j ∧ kdT t n j ≤ 13 ∧ stT t n (j + 1) < n ∧ t (stT t n (j + 1)) = 41)))) := by
      rintro _ rfl h
      exact ⟨0, rfl, by decide, fun c => absurd rfl c, fun c => absurd c h⟩
    have rt : z96 (kdT t n j) = 0 → 10 ≤ kdT t n j ∧ kdT t n j ≤ 13 → a_W d 95 52 [.ref 38, .retAddr 0] [] (mkH B s l) (fun q => ∃ v : Int, q = (.inl (some (iv v)), mkH B s l) ∧ inR v ∧ (v ≠ 0 ↔ (ftT t n j = 0 ∧ (z96 (kdT t n j) ≠ 0 ∨ (10 ≤ kdT t n j ∧ kdT t n j ≤ 13 ∧ stT t n (j + 1) < n ∧ t (stT t n (j + 1)) = 41))))) := by
      intro hz hk
      have a1 := (lt_nx h0 (by omega)).1
      have a2 := (lt_nx h0 (by omega)).2
      have e8 := (hC.2.2.2.2.2.1 a1).1
      have hF : tkF t n (stT t n j) = 0 := by
        unfold ftT at h0
        rw [if_pos a1, if_neg (by omega)] at h0
        exact h0
      obtain ⟨b1, b2⟩ := tkE_le a1 hF
      have hT := hC.1
      have en : stT t n (j + 1) = nb t (n - tkE t n (stT t n j)) (tkE t n (stT t n j)) false := rfl
      have hn := hT.2.1
      have e3 := hT.1
      refine w95_52 hB (by omega) s l (w97_0 hB (by omega) s l ?_)
      rw [e8]
      refine a_W.imp (x_blanks hB (by omega) l hT (tkE t n (stT t n j)) b2) ?_
      rintro _ rfl
      have b3 := (nb_ge t (n - tkE t n (stT t n j)) (tkE t n (stT t n j)) false).2
      rw [← en] at b3
      refine ⟨_, s, l, rfl, ?_⟩
      rw [← en]
      refine ⟨⟨by omega, by omega⟩, fun c => ⟨_, s, l, rfl, by decide, fun _ => w95_76 hB _ s l (no s rfl ?_), fun c => absurd rfl c⟩, fun c => ⟨⟨by omega, by omega⟩, ?_⟩⟩
      · rintro ⟨-, q | ⟨-, -, q, -⟩⟩
        · exact q hz
        · omega
      · rw [natc]
        have c' : stT t n (j + 1) < n := by omega
        obtain ⟨q1, q2, q3⟩ := hT.2.2 _ c'
        rw [q1]
        have sb41 : sb (t (stT t n (j + 1))) = 41 ↔ t (stT t n (j + 1)) = 41 := by unfold sb; constructor <;> intro h <;> (try split at *) <;> omega
        refine ⟨fun c2 => ⟨_, s, l, rfl, by decide, fun _ => w95_76 hB _ s l (no s rfl ?_), fun c => absurd rfl c⟩, fun c2 => ⟨_, s, l, rfl, by decide, fun c => absurd c (by decide), fun _ => yes s rfl ⟨h0, Or.inr ⟨hk.1, hk.2, c', sb41.mp c2⟩⟩⟩⟩
        rintro ⟨-, q | ⟨-, -, -, q⟩⟩
        · exact q hz
        · exact c2 (sb41.mpr q)
    have p96 := z96_0 (kdT t n j)
    refine w95_0 hB (by omega) s l ?_
    rw [k6]
    refine ⟨fun c => ⟨fun e => rt (by omega) (by omega), fun e => ⟨fun z => w95_56 hB s l (w95_76 hB _ s l (no s rfl ?_)), fun z => ⟨fun e9 => w95_56 hB s l (w95_76 hB _ s l (no s rfl ?_)), fun e9 => rt (by omega) ?_⟩⟩⟩, fun c => yes s rfl ⟨h0, Or.inl (by omega)⟩⟩
    · rintro ⟨-, q | ⟨q1, q2, -⟩⟩
      · omega
      · have : z59 (kdT t n j) ≠ 0 := by
          rcases (show kdT t n j = 10 ∨ kdT t n j = 11 ∨ kdT t n j = 12 by omega) with e | e | e <;> rw [e] <;> decide
        exact this z
    · rintro ⟨-, q | ⟨q1, q2, -⟩⟩
      · omega
      · omega
    · have := z59_k z
      omega
  · have gF := hA.f h0
    have k0 := gF.k0
    have k0' : z96 (zz s 1 6) = 0 := by rw [k0]; decide
    have z0 : z59 (zz s 1 6) = 0 := by rw [k0]; decide
    refine w95_0 hB (by omega) s l ⟨fun _ => ⟨fun e => absurd (k0.symm.trans e) (by decide), fun _ => ⟨fun _ => w95_56 hB s l (w95_76 hB _ s l ⟨0, rfl, by decide, fun c => absurd rfl c, fun c => absurd c.1 h0⟩), fun c => absurd z0 c⟩⟩, fun c => absurd c (by omega)⟩
end
