/-! THE READER MAKES LEAVES: constants, variables, numerals -/
section
variable {t : Nat → Int} {n : Nat} {ns tn : List (List Int)} {ta : List Int} {cn : List (List Int)} {ct : List aT} {B : aH}
/-- a node is made for K without a token read -/
def XNo (t : Nat → Int) (n : Nat) (ns tn : List (List Int)) (ta : List Int) (cn : List (List Int)) (ct : List aT) (ρ : List Nat) (K : aT) (P c sc wc : Nat) (B : aH) (s : aZ) (l : aZL) (q : aR) : Prop := ∃ (s2 : aZ) (w P2 c2 : Nat), q = (.inl (some (iv (w : Int))), mkH B s2 l) ∧ XRs tn ta cn ct P2 c2 sc wc s2 ∧ XFr c sc wc s s2 ∧ XMo P c P2 c2 s s2 ∧ w < c2 ∧ (∀ k, k ≤ 7 → s2 k = s k) ∧ (zz s2 45 7 = 0 → zz s 45 7 = 0 ∧ c2 = c + tmW K) ∧ (zz s 45 7 = 0 → c + tmW K ≤ 501 → P + csT K ≤ 17000 → ∀ i, RX t n ns tn ta ct ρ K i i s P c s2 P2 c2 w)
/-- a leaf whose type node is there -/
theorem x_leafT (hB : a_Can B) {d : Nat} (hd : 2 ≤ d) (l : aZL) {P P0 c sc wc : Nat} {s s0 : aZ} (hR : XRs tn ta cn ct P c sc wc s) (h0 : P0 ≤ P) (hf : XLo s0 s ∨ (∀ k, k ≠ 38 → s k = s0 k)) (h7 : ∀ k, k ≤ 7 → s k = s0 k) (hm : zz s 45 7 = zz s0 45 7 ∧ (zz s0 17 10 = 1 → zz s 17 10 = 1)) (ρ : List Nat) (q : Nat × Nat) (hq : q.1 ≠ 2) (x : Int) (hx : x = syL q) (hxr : inR x) (ty : Nat) (ht : ty < P) (hX : zz s0 45 7 = 0 → P0 + 40 ≤ 17000 → P ≤ P0 + 40 ∧ zz s 17 11 = zz s0 17 11 ∧ zz s 38 9 = bF (unK (.leaf q)) (zz s0 38 9) ∧ (∀ j, zz s 36 j = zz s0 36 j) ∧ (unK (.leaf q) = false → (∃ rt u, PE (arT ta) P0 s0 rt u) → zz s0 17 10 = 0 → XVl t n ns tn ta ct ρ (.leaf q) [ty] P0 s0 P s)) : a_W d 86 0 [.ref 45, iv x, iv (ty : Int)] [] (mkH B s l) (XNo t n ns tn ta cn ct ρ (.leaf q) P0 c sc wc B s0 l) := by
  have h5 := hR.2.2.2.2.1
  have h8 := hR.2.2.2.2.2.2.2.1
  refine w86_0 hB (by omega) _ _ s l (a_W.imp (x_tadd hB (by omega) l hR x hxr 0 0 ty (by omega) (by omega) ht) ?_)
  rintro _ ⟨s7, w, c2, rfl, k1, k2, k3, k4, k5, k6, k7, k8⟩
  obtain ⟨lw1, lw2, lw3⟩ := lf_w q hq
  have zp : ∀ k j, k < 45 → zz s7 k j = zz s k j := fun k j hk => zz_of (k3 k (by omega)) j
  have fr0 : XFr c sc wc s0 s := by
    rcases hf with hf | hf
    · exact hf.fr c sc wc
    · exact ⟨fun k hk => hf k (by omega), fun j _ => zz_of (hf 1 (by decide)) j, zz_of (hf 17 (by decide)) 9, fun k j h1 h2 _ => zz_of (hf k (by omega)) j, fun k j h1 h2 _ => zz_of (hf k (by omega)) j, fun k j h1 h2 _ => zz_of (hf k (by omega)) j⟩
  refine ⟨_, s7, l, rfl, s7, w, P, c2, rfl, k1, fr0.tr k2 XFrr, ⟨h0, k5, fun e => k6 (by rw [hm.1]; exact e), fun e => by rw [zp 17 10 (by decide)]; exact hm.2 e⟩, k4, fun k hk => (k3 k (by omega)).trans (h7 k hk), fun e => by rw [← hm.1, lw1]; exact k7 e, fun e1 e2 e3 i => ?_⟩
  rw [lw1] at e2
  rw [lw3] at e3
  obtain ⟨m1, m2, m3, m4, m5, m6, m7, m8⟩ := k8 (hm.1.trans e1) (by omega)
  obtain ⟨n1, n2, n3, n4, n5⟩ := hX e1 e3
  rw [h8.2] at m8
  have m8 := m8 (by decide)
  have z36 : ∀ j, zz s7 36 j = zz s0 36 j := fun j => (zp 36 j (by decide)).trans (n4 j)
  subst m2
  refine ⟨⟨by rw [lw1]; exact m3, by rw [lw3]; omega⟩, ⟨m1, (zp 17 11 (by decide)).trans n2⟩, ⟨(zp 38 9 (by decide)).trans n3, z36 6, by rw [z36]; exact ⟨Or.inl, fun h => h.elim id False.elim⟩⟩, [ty], ⟨⟨by omega, by omega⟩, m4.trans hx, m5, m6, m8, by rw [m7, natc]⟩, ⟨fun k hk => ?_, fun y h1 h2 => by rw [show y = w by omega, m7, natc]; exact List.mem_cons_self⟩, fun hu _ hE hc => ?_⟩
  · rw [List.mem_singleton.mp hk]
    exact ht
  · have ev : vwX s7 = vwX s := vwX_of (fun k k1' k2' j => zp k j (by omega))
    rcases n5 hu hE hc with ⟨q1, q2⟩ | ⟨q1, ⟨rt, u, q2⟩, q3, q4⟩
    · exact Or.inl ⟨(zp 17 10 (by decide)).trans q1, q2⟩
    · refine Or.inr ⟨(zp 17 10 (by decide)).trans q1, ⟨rt, u, q2.vw k1.1 ev⟩, ?_, ?_⟩
      · rw [ev]; exact q3
      · rw [ev]; exact q4
/-- a constant's leaf -/
theorem x_const (hB : a_Can B) {d : Nat} (hd : 8 ≤ d) (l : aZL) (h2a : ta.getD 2 0 = 2) (hW : ∀ c, c < cn.length → wfC tn.length ta (ct.getD c cNo)) {P c sc wc : Nat} {s : aZ} (hR : XRs tn ta cn ct P c sc wc s) (ρ : List Nat) (c1 c2 : Nat) (h1 : c1 < cn.length) (h2 : c2 < cn.length) (q : Nat × Nat) (hq : q = (5, c1) ∧ c2 = c1 ∨ q = (6, 0) ∧ c1 = 0 ∧ c2 = 6) : a_W d 83 0 [.ref 38, iv (c1 : Int), iv (c2 : Int)] [] (mkH B s l) (XNo t n ns tn ta cn ct ρ (.leaf q) P c sc wc B s l) := by
  have hcl := hR.2.2.2.1.1.2.2.2.1
  have h5 := hR.2.2.2.2.1
  have q2 : q.1 ≠ 2 := by
    rcases hq with ⟨rfl, -⟩ | ⟨rfl, -⟩
    · exact (show (5 : Nat) ≠ 2 by decide)
    · exact (show (6 : Nat) ≠ 2 by decide)
  refine w83_0 hB (by omega) _ _ s l ⟨fun c0 => ?_, fun c0 => ⟨s, 0, P, c, rfl, hR, XFr.rf _ _ _ _, XMo.rf _ _ _, by omega, fun _ _ => rfl, fun e => absurd e c0, fun e => absurd e c0⟩⟩
  refine a_W.imp (x_newType hB (by omega) hR.2.2.1 h2a hR.2.2.2.1 h2 (hW c2 h2) hR.2.1 hR.1) ?_
  rintro _ ⟨s2, w, P2, rfl, hN⟩
  have hNN := hN
  obtain ⟨g1, g2, g3, g4, g5, g6, g7⟩ := hN
  have hp40 := (hR.2.2.2.1.2.2.2 c2 h2).2.1
  have hR2 := hR.lo g1.lo g2 g3 g5
  refine ⟨_, s2, l, rfl, ?_⟩
  have e45 : zz s2 45 7 = zz s 45 7 := zz_of (g1.1 45 (by decide) (by decide) (by decide)) 7
  have e10 : zz s2 17 10 = zz s 17 10 := g1.2 10 (by decide) (by decide)
  have hx : (2 * (c1 : Int) + 1) = syL q := by
    rcases hq with ⟨rfl, -⟩ | ⟨rfl, rfl, -⟩
    · rfl
    · rfl
  have un : unK (.leaf q) = false := by rcases hq with ⟨rfl, -⟩ | ⟨rfl, -⟩ <;> rfl
  refine a_W.imp (x_leafT (t := t) (n := n) (ns := ns) hB (by omega) l hR2 g3 (Or.inl g1.lo) (fun k hk => g1.1 k (by omega) (by omega) (by omega)) ⟨e45, fun e => e10.trans e⟩ ρ q q2 (2 * (c1 : Int) + 1) hx ⟨by omega, by omega⟩ w g6 (fun e1 e2 => ?_)) (fun r hr => ?_)
  · obtain ⟨r1, r2, r3, r4, r5, r6⟩ := g7 e2
    refine ⟨by omega, r1, by rw [un]; exact zz_of (g1.1 38 (by decide) (by decide) (by decide)) 9, fun j => zz_of (g1.1 36 (by decide) (by decide) (by decide)) j, fun _ hE hc => ?_⟩
    obtain ⟨rt, u, hE⟩ := hE
    obtain ⟨v1, v2, v3⟩ := hNN.val e2 hE
    have td : ∀ (ρ' R : List aT), tyd t n ns tn ct (.leaf q) ρ' R ↔ ∃ τ, R = [nsC τ (ct.getD c2 cNo)] := by
      rcases hq with ⟨rfl, rfl⟩ | ⟨rfl, -, rfl⟩
      · exact fun _ _ => Iff.rfl
      · exact fun _ _ => Iff.rfl
    refine Or.inr ⟨e10.trans hc, ⟨_, _, v1⟩, fun v hV => ?_, fun v R hV hT => ?_⟩
    · obtain ⟨a1, τ, a2⟩ := v2 v hV
      exact ⟨a1, (td _ _).mpr ⟨τ, by rw [← a2]; rfl⟩⟩
    · obtain ⟨τ, rfl⟩ := (td _ _).mp hT
      obtain ⟨v', b1, b2, b3⟩ := v3 v hV τ
      exact ⟨v', b1, b2, by rw [← b3]; rfl⟩
  · obtain ⟨s7, w7, P7, c7, rfl, rest⟩ := hr
    exact ⟨_, s7, l, rfl, s7, w7, P7, c7, rfl, rest⟩
theorem x_const1 (hB : a_Can B) {d : Nat} (hd : 9 ≤ d) (l : aZL) (h2a : ta.getD 2 0 = 2) (hW : ∀ c, c < cn.length → wfC tn.length ta (ct.getD c cNo)) {P c sc wc : Nat} {s : aZ} (hR : XRs tn ta cn ct P c sc wc s) (ρ : List Nat) (c1 : Nat) (h1 : c1 < cn.length) : a_W d 82 0 [.ref 38, iv (c1 : Int)] [] (mkH B s l) (XNo t n ns tn ta cn ct ρ (.leaf (5, c1)) P c sc wc B s l) := by
  refine w82_0 hB (by omega) _ s l (a_W.imp (x_const (t := t) (n := n) (ns := ns) hB (by omega) l h2a hW hR ρ c1 c1 h1 h1 (5, c1) (Or.inl ⟨rfl, rfl⟩)) ?_)
  rintro _ ⟨s7, w7, P7, c7, rfl, rest⟩
  exact ⟨_, s7, l, rfl, s7, w7, P7, c7, rfl, rest⟩
/-- the text of a token that can name a constant -/
theorem tk_nm {s : aZ} (hT : XT t n s) {i : Nat} (h0 : ftT t n i = 0) (hk : kdT t n i = 1 ∨ (10 ≤ kdT t n i ∧ kdT t n i ≤ 22)) : Sg (zz s 2) (stT t n i) (nmK t n i) ∧ stT t n i + (nmK t n i).length = tkE t n (stT t n i) ∧ tkE t n (stT t n i) ≤ 8000 ∧ 0 < (nmK t n i).length := by
  obtain ⟨a1, a2⟩ := lt_nx h0 (by omega)
  have hK : tkK t n (stT t n i) = kdT t n i := by unfold kdT; rw [if_pos a1]
  obtain ⟨b1, b2, b3, -, b5⟩ := co_nm hT a1 (ft0 h0 a1).2 (by rw [hK]; exact hk)
  have := hT.2.1
  exact ⟨b1, b2, by omega, b5⟩
theorem nm_op {i : Nat} (h0 : ftT t n i = 0) (hk : 10 ≤ kdT t n i ∧ kdT t n i ≤ 22) : nmK t n i = opN (kdT t n i) := by
  obtain ⟨a1, a2⟩ := lt_nx h0 (by omega)
  have hK : tkK t n (stT t n i) = kdT t n i := by unfold kdT; rw [if_pos a1]
  have := (tk_op a1 (by rw [hK]; exact hk)).1
  rw [hK] at this
  exact this
/-- the constant that token i names -/
def tkC (t : Nat → Int) (n : Nat) (cn : List (List Int)) (i : Nat) : aT := if kdT t n i = 14 then .leaf (6, 0) else cnK cn (nmK t n i)
theorem XRs.z38 {P c sc wc : Nat} {s : aZ} (h : XRs tn ta cn ct P c sc wc s) (x : Int) : XRs tn ta cn ct P c sc wc (zu s 38 9 x) := by
  obtain ⟨h1, h2, h3, h4, h5, h6, h7, h8, h9, h10, h11⟩ := h
  have z : ∀ k j, k ≠ 38 → zz (zu s 38 9 x) k j = zz s k j := fun k j hk => zz_ne _ _ _ _ _ _ (by omega)
  have k38 : ∀ k, k ≠ 38 → (zu s 38 9 x) k = s k := fun k hk => zu_ne _ _ _ _ _ hk
  refine ⟨h1.z (z 17 8 (by decide)) (fun k k1 k2 j => z k j (by omega)), h2, h3.fr (fun k k1 k2 => k38 k (by omega)), h4.fr (fun k k1 k2 => k38 k (by omega)), ⟨(z 45 6 (by decide)).trans h5.1, h5.2⟩, ⟨(z 39 3 (by decide)).trans h6.1, h6.2⟩, ⟨(zz_ne _ _ _ _ _ _ (by omega)).trans h7.1, h7.2⟩, ⟨(z 36 4 (by decide)).trans h8.1, (z 50 0 (by decide)).trans h8.2⟩, fun j hj => ?_, fun j hj => ?_, fun j hj => ?_⟩
  · rw [z 47 j (by decide), z 48 j (by decide), z 49 j (by decide)]; exact h9 j hj
  · rw [z 42 j (by decide)]; exact h10 j hj
  · rw [z 43 j (by decide)]; exact h11 j hj
theorem x_conTok (hB : a_Can B) {d : Nat} (hd : 10 ≤ d) (l : aZL) (h2a : ta.getD 2 0 = 2) (hW : ∀ c, c < cn.length → wfC tn.length ta (ct.getD c cNo)) (h12 : 12 ≤ cn.length) {P c sc wc : Nat} {s : aZ} (hR : XRs tn ta cn ct P c sc wc s) (ρ : List Nat) {i : Nat} (h0 : ftT t n i = 0) (hC : XC t n ns i s) (hk : kdT t n i = 1 ∨ (10 ≤ kdT t n i ∧ kdT t n i ≤ 22)) : a_W d 98 0 [.ref 38, .retAddr 0] [] (mkH B s l) (XNo t n ns tn ta cn ct ρ (tkC t n cn i) P c sc wc B s l) := by
  have hT := hC.1
  have k7 : zz s 1 7 = stT t n i := hC.2.2.2.1
  have k6 : zz s 1 6 = kdT t n i := hC.2.2.2.2.1
  obtain ⟨a1, a2⟩ := lt_nx h0 (by omega)
  have k8 : zz s 1 8 = tkE t n (stT t n i) := (hC.2.2.2.2.2.1 a1).1
  obtain ⟨b1, b2, b3, b4⟩ := tk_nm hT h0 hk
  have hNT := hR.2.2.2.1.1
  have hcl := hNT.2.2.2.1
  have h1p := hR.1.1
  refine w98_0 hB (by omega) s l ⟨fun n14 => ?_, fun e14 => ?_⟩
  · have e : tkC t n cn i = cnK cn (nmK t n i) := if_neg (by rw [← k6]; exact n14)
    rw [e, k7, k8]
    refine a_W.imp (x_find26 hB (by omega) s l cn hNT _ _ (nmK t n i) b2 b3 b1) ?_
    rintro _ rfl
    have fr := fd_rng cn (nmK t n i)
    refine ⟨_, s, l, rfl, ⟨by omega, by omega⟩, fun hlt => ?_, fun hge => ?_⟩
    · have eK : cnK cn (nmK t n i) = .leaf (7, 0) := if_neg (by omega)
      rw [eK]
      refine a_W.imp (x_leafT (t := t) (n := n) (ns := ns) (s0 := s) (P0 := P) hB (by omega) l (hR.z38 1) (Nat.le_refl _) (Or.inr (fun k hk => zu_ne _ _ _ _ _ hk)) (fun k hk => zu_ne _ _ _ _ _ (by omega)) ⟨zz_ne _ _ _ _ _ _ (by omega), fun e => (zz_ne _ _ _ _ _ _ (by omega)).trans e⟩ ρ (7, 0) (by decide) 0 rfl (by decide) 0 h1p (fun _ _ => ⟨by omega, zz_ne _ _ _ _ _ _ (by omega), zz_same _ _ _ (by decide), fun j => zz_ne _ _ _ _ _ _ (by omega), fun h => absurd h (by decide)⟩)) ?_
      rintro _ ⟨s7, w7, P7, c7, rfl, rest⟩
      exact ⟨_, s7, l, rfl, s7, w7, P7, c7, rfl, rest⟩
    · have eK : cnK cn (nmK t n i) = .leaf (5, (fd cn (nmK t n i) cn.length).toNat) := if_pos hge
      rw [eK]
      obtain ⟨m, em⟩ : ∃ m : Nat, fd cn (nmK t n i) cn.length = m := ⟨(fd cn (nmK t n i) cn.length).toNat, by omega⟩
      rw [em, natc]
      refine a_W.imp (x_const1 (t := t) (n := n) (ns := ns) hB (by omega) l h2a hW hR ρ m (by omega)) ?_
      rintro _ ⟨s7, w7, P7, c7, rfl, rest⟩
      exact ⟨_, s7, l, rfl, s7, w7, P7, c7, rfl, rest⟩
  · have e : tkC t n cn i = .leaf (6, 0) := if_pos (by rw [← k6]; exact e14)
    rw [e]
    refine a_W.imp (x_const (t := t) (n := n) (ns := ns) hB (by omega) l h2a hW hR ρ 0 6 (by omega) (by omega) (6, 0) (Or.inr ⟨rfl, rfl, rfl⟩)) ?_
    rintro _ ⟨s7, w7, P7, c7, rfl, rest⟩
    exact ⟨_, s7, l, rfl, s7, w7, P7, c7, rfl, rest⟩
/-- the innermost variable of a name -/
theorem x_sfind (hB : a_Can B) {d : Nat} (hd : 1 ≤ d) (l : aZL) {s : aZ} (hT : XT t n s) {i : Nat} (h0 : ftT t n i = 0) (hk : kdT t n i = 1) (h7 : zz s 1 7 = stT t n i) : ∀ (es : List Nat) (k : Nat), k ≤ 500 → XSc t n s es k → a_W d 101 17 [.ref 39, .ref 1, iv ((nmK t n i).length : Int), iv ((k : Int) - 1)] [] (mkH B s l) (fun q => q = (.inl (some (iv (if ixE (es.map (nmK t n)) (nmK t n i) < es.length then (k : Int) - 1 - (ixE (es.map (nmK t n)) (nmK t n i) : Int) else -1))), mkH B s l)) := by
  obtain ⟨b1, b2, b3, b4⟩ := tk_nm hT h0 (Or.inl hk)
  intro es
  induction es with
  | nil =>
    intro k hk5 h
    have h : k = 0 := h
    subst h
    exact w101_17 hB (by omega) _ _ s l ⟨by decide, fun _ => rfl, fun c => absurd c (by decide)⟩
  | cons e es ih =>
    intro k hk5 h
    cases k with
    | zero => exact absurd h (by intro h; exact h)
    | succ k =>
      obtain ⟨⟨⟨g0, g1, g2⟩, g3, g4⟩, g5⟩ := h
      obtain ⟨c1, c2, c3, c4⟩ := tk_nm hT g1 (Or.inl g2)
      have ek : ((k + 1 : Nat) : Int) - 1 = (k : Int) := by omega
      have nx : nmK t n e ≠ nmK t n i → a_W d 101 17 [.ref 39, .ref 1, iv ((nmK t n i).length : Int), iv ((k : Int) + (-1))] [] (mkH B s l) (fun q => q = (.inl (some (iv (if ixE ((e :: es).map (nmK t n)) (nmK t n i) < (e :: es).length then (k : Int) - (ixE ((e :: es).map (nmK t n)) (nmK t n i) : Int) else -1))), mkH B s l)) := by
        intro ne
        have ei : ixE ((e :: es).map (nmK t n)) (nmK t n i) = ixE (es.map (nmK t n)) (nmK t n i) + 1 := by
          show (if nmK t n e = nmK t n i then 0 else _) = _
          rw [if_neg ne]
        rw [show (k : Int) + (-1) = (k : Int) - 1 by omega]
        refine a_W.imp (ih k (by omega) g5) ?_
        rintro _ rfl
        rw [ei, List.length_cons]
        by_cases q : ixE (es.map (nmK t n)) (nmK t n i) < es.length
        · rw [if_pos q, if_pos (by omega)]
          congr 4
          omega
        · rw [if_neg q, if_neg (by omega)]
      rw [ek]
      refine w101_17 hB (by omega) _ _ s l ⟨⟨by omega, by omega⟩, fun c => absurd c (by omega), fun _ => ⟨⟨by omega, by omega⟩, ?_⟩⟩
      rw [natc, g3, g4]
      refine ⟨⟨by omega, by omega⟩, ⟨by omega, by omega⟩, fun c => nx (fun q => c (by rw [← q]; omega)), fun c => ?_⟩
      rw [h7]
      refine a_W.imp (x_same2 hB s l (stT t n e) (stT t n i) (tkE t n (stT t n e)) (nmK t n e) (nmK t n i) (by omega) c2 c3 (by omega) c1 b1) ?_
      rintro _ rfl
      by_cases q : nmK t n e = nmK t n i
      · rw [if_pos q]
        refine ⟨_, s, l, rfl, by decide, fun c => absurd c (by decide), fun _ => ?_⟩
        have ei : ixE ((e :: es).map (nmK t n)) (nmK t n i) = 0 := by
          show (if nmK t n e = nmK t n i then 0 else _) = _
          rw [if_pos q]
        rw [ei, if_pos (by rw [List.length_cons]; omega)]
        congr 4
      · rw [if_neg q]
        exact ⟨_, s, l, rfl, by decide, fun _ => nx q, fun c => absurd rfl c⟩
theorem scT_get {s : aZ} : ∀ (k j : Nat), j < k → (scT s k).getD j 0 = (zz s 42 (k - 1 - j)).toNat := by
  intro k
  induction k with
  | zero => intro j h; omega
  | succ k ih =>
    intro j h
    cases j with
    | zero => rfl
    | succ j =>
      show (scT s k).getD j 0 = _
      rw [ih j (by omega), show k + 1 - 1 - (j + 1) = k - 1 - j by omega]
theorem scT_len {s : aZ} : ∀ k, (scT s k).length = k := by
  intro k
  induction k with
  | zero => rfl
  | succ k ih => show (scT s k).length + 1 = _; rw [ih]
theorem scT_lt {s : aZ} {P : Nat} : ∀ k, (∀ j, j < k → 0 ≤ zz s 42 j ∧ zz s 42 j < P) → ∀ y ∈ scT s k, y < P := by
  intro k
  induction k with
  | zero => intro _ y hy; exact absurd hy List.not_mem_nil
  | succ k ih =>
    intro h y hy
    rcases List.mem_cons.mp hy with rfl | hy
    · have := h k (Nat.lt_succ_self _)
      omega
    · exact ih (fun j hj => h j (by omega)) y hy
theorem map_getD {v : Nat → aT} : ∀ (L : List Nat) (j : Nat), j < L.length → (L.map v).getD j cNo = v (L.getD j 0) := by
  intro L
  induction L with
  | nil => intro j h; exact absurd h (Nat.not_lt_zero _)
  | cons a L ih =>
    intro j h
    cases j with
    | zero => rfl
    | succ j => exact ih j (by rw [List.length_cons] at h; omega)
/-- a name in a term -/
theorem x_name (hB : a_Can B) {d : Nat} (hd : 11 ≤ d) (l : aZL) (h2a : ta.getD 2 0 = 2) (hW : ∀ c, c < cn.length → wfC tn.length ta (ct.getD c cNo)) (h12 : 12 ≤ cn.length) {P c sc wc : Nat} {s : aZ} (hR : XRs tn ta cn ct P c sc wc s) {i : Nat} (h0 : ftT t n i = 0) (hC : XC t n ns i s) (hk : kdT t n i = 1) (es : List Nat) (hE : XSc t n s es sc) (env : List (List Int)) (hv : zz s 45 7 = 0 → env = es.map (nmK t n)) : a_W d 100 0 [.ref 38, .retAddr 0] [] (mkH B s l) (XNo t n ns tn ta cn ct (scT s sc) (lfK t n cn (0, i) env) P c sc wc B s l) := by
  have hT := hC.1
  have k7 : zz s 1 7 = stT t n i := hC.2.2.2.1
  obtain ⟨a1, a2⟩ := lt_nx h0 (by omega)
  have k8 : zz s 1 8 = tkE t n (stT t n i) := (hC.2.2.2.2.2.1 a1).1
  obtain ⟨b1, b2, b3, b4⟩ := tk_nm hT h0 (Or.inl hk)
  have h6 := hR.2.2.2.2.2.1
  have h10 := hR.2.2.2.2.2.2.2.2.2.1
  have hlen := XSc.len es sc hE
  have tC : tkC t n cn i = cnK cn (nmK t n i) := if_neg (by omega)
  -- behind overfull the name does not matter
  have big : ∀ (K1 K2 : aT) (q : aR), tmW K1 = tmW K2 → (zz s 45 7 = 0 → K1 = K2) → XNo t n ns tn ta cn ct (scT s sc) K1 P c sc wc B s l q → XNo t n ns tn ta cn ct (scT s sc) K2 P c sc wc B s l q := by
    rintro K1 K2 q e1 e2 ⟨s2, w, P2, c2, r1, r2, r3, r4, r5, r6, r7, r8⟩
    refine ⟨s2, w, P2, c2, r1, r2, r3, r4, r5, r6, by rw [← e1]; exact r7, fun h => ?_⟩
    rw [← e2 h]
    exact r8 h
  have wL := (lfK_w t n cn (0, i) env (show (0 : Nat) ≤ 2 by decide)).1
  have w1 : tmW (.leaf (0, i)) = 1 := rfl
  refine w100_0 hB (by omega) s l (w101_0 hB s l ?_)
  rw [k7, k8, h6.1, show (tkE t n (stT t n i) : Int) - (stT t n i : Int) = ((nmK t n i).length : Int) by omega]
  refine a_W.imp (x_sfind hB (by omega) l hT h0 hk k7 es sc h6.2 hE) ?_
  rintro _ rfl
  by_cases q : ixE (es.map (nmK t n)) (nmK t n i) < es.length
  · rw [if_pos q]
    generalize hj : ixE (es.map (nmK t n)) (nmK t n i) = j at *
    refine ⟨_, s, l, rfl, ⟨by omega, by omega⟩, fun _ => ⟨⟨by omega, by omega⟩, ?_⟩, fun c => absurd c (by omega)⟩
    rw [h6.1, show (sc : Int) - 1 - ((sc : Int) - 1 - (j : Int)) = (j : Int) by omega, show ((sc : Int) - 1 - (j : Int)).toNat = sc - 1 - j by omega]
    have hr := h10 (sc - 1 - j) (by omega)
    obtain ⟨ty, et⟩ : ∃ y : Nat, zz s 42 (sc - 1 - j) = y := ⟨(zz s 42 (sc - 1 - j)).toNat, by omega⟩
    rw [et]
    have eg : (scT s sc).getD j 0 = ty := by rw [scT_get sc j (by omega), et, natc]
    refine a_W.imp (x_leafT (t := t) (n := n) (ns := ns) (s0 := s) (P0 := P) hB (by omega) l hR (Nat.le_refl _) (Or.inl (XLo.rf s)) (fun k hk => rfl) ⟨rfl, id⟩ (scT s sc) (4, j) (show (4 : Nat) ≠ 2 by decide) (2 * (j : Int)) rfl ⟨by omega, by omega⟩ ty (by omega) (fun _ _ => ⟨by omega, rfl, rfl, fun _ => rfl, fun _ hE hc => Or.inr ⟨hc, hE, fun v hV => ⟨hV, ?_⟩, fun v R hV hT => ⟨v, hV, fun _ _ => rfl, ?_⟩⟩⟩)) ?_
    · show [v ty] = [((scT s sc).map v).getD j cNo]
      rw [map_getD _ _ (by rw [scT_len]; omega), eg]
    · rw [(tyd_v _ _ _).mp hT, map_getD _ _ (by rw [scT_len]; omega), eg]
      rfl
    rintro r hr
    have hr2 := big (.leaf (4, j)) (lfK t n cn (0, i) env) r (by rw [wL]; rfl) (fun h => ?_) hr
    · obtain ⟨s7, w7, P7, c7, rfl, rest⟩ := hr2
      exact ⟨_, s7, l, rfl, s7, w7, P7, c7, rfl, rest⟩
    · unfold lfK
      rw [if_pos rfl, hv h, hj, if_pos (by rw [List.length_map]; exact q)]
  · rw [if_neg q]
    refine ⟨_, s, l, rfl, by decide, fun c => absurd c (by decide), fun _ => a_W.imp (x_conTok (t := t) (n := n) (ns := ns) hB (by omega) l h2a hW h12 hR (scT s sc) h0 hC (Or.inl hk)) ?_⟩
    rintro r hr
    have hr2 := big (tkC t n cn i) (lfK t n cn (0, i) env) r (by rw [wL, tC]; exact (cnK_w _ _).1) (fun h => ?_) hr
    · obtain ⟨s7, w7, P7, c7, rfl, rest⟩ := hr2
      exact ⟨_, s7, l, rfl, s7, w7, P7, c7, rfl, rest⟩
    · unfold lfK
      rw [tC, if_pos rfl, hv h, if_neg (by rw [List.length_map]; exact q)]
end
