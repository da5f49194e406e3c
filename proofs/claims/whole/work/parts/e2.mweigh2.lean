/-! THE REFERENCE WEIGHS A TYPE: the loop -/
theorem cnt_lt (p q : Nat → Bool) (a P : Nat) (ha : a < P) (hpq : ∀ k, q k = true → p k = true) (hpa : p a = true) (hqa : q a = false) : (List.range P).countP q + 1 ≤ (List.range P).countP p := by
  have h := cnt_upd (fun k => if k = a then true else q k) q a (if_pos rfl) hqa (fun k hk => (if_neg hk).symm) P ha
  rw [h]
  refine List.countP_mono_left (fun k _ hk => ?_)
  by_cases e : k = a
  · rw [e]; exact hpa
  · exact hpq k (by rw [← hk]; exact (if_neg e).symm)
def n2M (P : Nat) (s : aZ) : Nat := (List.range P).countP (fun k => decide (zz s 100 k ≠ 2))
def c1M (P : Nat) (s : aZ) : Nat := (List.range P).countP (fun k => decide (zz s 100 k = 1))
theorem n2M_eq {P : Nat} {s s2 : aZ} (h : ∀ k, zz s2 100 k = 2 ↔ zz s 100 k = 2) : n2M P s2 = n2M P s := by
  unfold n2M
  refine List.countP_congr (fun k _ => ?_)
  rw [decide_eq_true_iff, decide_eq_true_iff, ne_eq, ne_eq, h k]
theorem n2M_fin {P : Nat} {s s2 : aZ} {a : Nat} (ha : a < P) (h1 : zz s 100 a ≠ 2) (h2 : zz s2 100 a = 2) (h : ∀ k, k ≠ a → zz s2 100 k = zz s 100 k) : n2M P s2 + 1 = n2M P s := cnt_upd _ _ a (decide_eq_true h1) (decide_eq_false (fun c => c h2)) (fun k hk => by rw [h k hk]) P ha
theorem n2M_le (P : Nat) (s : aZ) : n2M P s ≤ P := by
  have := List.countP_le_length (p := fun k => decide (zz s 100 k ≠ 2)) (l := List.range P)
  rw [List.length_range] at this
  exact this
theorem c1M_up {P : Nat} {s s2 : aZ} {a : Nat} (ha : a < P) (h1 : zz s 100 a ≠ 1) (h2 : zz s2 100 a = 1) (h : ∀ k, k ≠ a → zz s2 100 k = zz s 100 k) : c1M P s + 1 = c1M P s2 := cnt_upd _ _ a (decide_eq_true h2) (decide_eq_false h1) (fun k hk => by rw [h k hk]) P ha
theorem c1M_eq {P : Nat} {s s2 : aZ} (h : ∀ k, zz s2 100 k = zz s 100 k) : c1M P s2 = c1M P s := by
  unfold c1M
  refine List.countP_congr (fun k _ => ?_)
  rw [h k]
theorem c1M_le (P : Nat) (s : aZ) : c1M P s ≤ n2M P s := List.countP_mono_left (fun k _ hk => by rw [decide_eq_true_iff] at hk ⊢; omega)
theorem c1M_lt {P : Nat} {s : aZ} {a : Nat} (ha : a < P) (h : zz s 100 a = 0) : c1M P s + 1 ≤ n2M P s := cnt_lt _ _ a P ha (fun k hk => by rw [decide_eq_true_iff] at hk ⊢; omega) (decide_eq_true (by omega)) (decide_eq_false (by omega))
theorem n2M_pos {P : Nat} {s : aZ} {a : Nat} (ha : a < P) (h : zz s 100 a ≠ 2) : 1 ≤ n2M P s := by
  have := List.countP_pos_iff (p := fun k => decide (zz s 100 k ≠ 2)).mpr ⟨a, List.mem_range.mpr ha, (decide_eq_true h : decide (zz s 100 a ≠ 2) = true)⟩
  exact this
section
variable {B : aH} {ar : Int → Nat} {P : Nat} {rt u : Nat → Nat}
/-- the pool that is weighed -/
def PLm (ar : Int → Nat) (P : Nat) (rt u : Nat → Nat) (s : aZ) : Prop := PMr P s ∧ Uf P (vwM s) rt u ∧ CdP unM ar P (vwM s)
theorem PLm.fr {s s2 : aZ} (h : PLm ar P rt u s) (e : eqP s s2) (h16 : zz s2 56 16 = zz s 56 16) : PLm ar P rt u s2 := by
  obtain ⟨h1, h2, h3⟩ := h
  have hv := e.vw
  refine ⟨⟨h16.trans h1.1, fun j hj => ?_⟩, by rw [hv]; exact h2, by rw [hv]; exact h3⟩
  rw [e 65 (by decide) (by decide), e 66 (by decide) (by decide), e 67 (by decide) (by decide)]
  exact h1.2 j hj
/-- a part of k -/
def pOf (rt : Nat → Nat) (s : aZ) (x : Int) (k : Nat) : Prop := x = prt rt (zz s 65 k) ∨ x = prt rt (zz s 66 k)
/-- what is weighed is weighed rightly -/
def WvI (P : Nat) (rt : Nat → Nat) (s : aZ) : Prop := (∀ j, j < P → 0 ≤ zz s 100 j ∧ zz s 100 j ≤ 2) ∧ ∀ k, k < P → zz s 100 k = 2 → rt k = k ∧ (∀ x : Int, pOf rt s x k → x ≠ -1 → zz s 100 x.toNat = 2) ∧ zz s 101 k = min (1 + wvM s (prt rt (zz s 65 k)) + wvM s (prt rt (zz s 66 k))) 100000 ∧ zz s 102 k = 1 + max (hvM s (prt rt (zz s 65 k))) (hvM s (prt rt (zz s 66 k))) ∧ (1 ≤ zz s 101 k ∧ zz s 101 k ≤ 100000) ∧ 1 ≤ zz s 102 k ∧ zz s 102 k + n2M P s ≤ P
def FrWg (s s2 : aZ) : Prop := (∀ c, c ≠ 56 → (c < 100 ∨ 103 < c) → s2 c = s c) ∧ (∀ j, j ≠ 22 → j ≠ 23 → zz s2 56 j = zz s 56 j) ∧ ∀ k, zz s 100 k = 2 → zz s2 100 k = 2 ∧ zz s2 101 k = zz s 101 k ∧ zz s2 102 k = zz s 102 k
theorem FrWg.rf (s : aZ) : FrWg s s := ⟨fun _ _ _ => rfl, fun _ _ _ => rfl, fun _ h => ⟨h, rfl, rfl⟩⟩
theorem FrWg.tr {s1 s2 s3 : aZ} (a : FrWg s1 s2) (b : FrWg s2 s3) : FrWg s1 s3 := ⟨fun c h1 h2 => (b.1 c h1 h2).trans (a.1 c h1 h2), fun j h1 h2 => (b.2.1 j h1 h2).trans (a.2.1 j h1 h2), fun k h => by
  obtain ⟨a1, a2, a3⟩ := a.2.2 k h
  obtain ⟨b1, b2, b3⟩ := b.2.2 k a1
  exact ⟨b1, b2.trans a2, b3.trans a3⟩⟩
theorem FrWg.eqP {s s2 : aZ} (f : FrWg s s2) : eqP s s2 := fun c h1 h2 j => zz_of (f.1 c (by omega) (by omega)) j
/-- each is a part of the one below -/
def WCh (rt : Nat → Nat) (s : aZ) : List Nat → Prop
  | [] => True
  | [_] => True
  | k :: k2 :: L => pOf rt s (k : Int) k2 ∧ WCh rt s (k2 :: L)
theorem WCh.keep {s s2 : aZ} (e : ∀ j, zz s2 65 j = zz s 65 j ∧ zz s2 66 j = zz s 66 j) : ∀ L : List Nat, WCh rt s L → WCh rt s2 L := by
  intro L
  induction L with
  | nil => intro _; trivial
  | cons k L ih =>
    cases L with
    | nil => intro _; trivial
    | cons k2 L =>
      intro h
      refine ⟨?_, ih h.2⟩
      unfold pOf
      rw [(e k2).1, (e k2).2]
      exact h.1
theorem WCh.tail {s : aZ} {k : Nat} {L : List Nat} (h : WCh rt s (k :: L)) : WCh rt s L := by
  cases L with
  | nil => trivial
  | cons k2 L => exact h.2
theorem sz_part {s : aZ} (hL : PLm ar P rt u s) {v : Nat → aT} (hV : Vl unM P (vwM s) v) {y k : Nat} (hk : k < P) (h : pOf rt s (y : Int) k) : szT (v y) < szT (v k) := by
  obtain ⟨h1, h2, h3⟩ := hL
  have key : ∀ x : Int, (x = zz s 65 k ∨ x = zz s 66 k) → (y : Int) = prt rt x → 0 ≤ x ∧ ptT v x = v y := fun x hx e => by
    unfold prt at e
    by_cases c : x < 0
    · rw [if_pos c] at e; omega
    · rw [if_neg c] at e
      have hxP : x < P := by
        have := h1.2 k hk
        rcases hx with rfl | rfl <;> omega
      refine ⟨by omega, ?_⟩
      rw [ptT_p _ _ (by omega), hV.root h2 x.toNat (by omega)]
      congr 1
      omega
  have hu : (0 ≤ zz s 65 k ∨ 0 ≤ zz s 66 k) → v k = .branch (enc (zz s 64 k)) (ptT v (zz s 65 k)) (ptT v (zz s 66 k)) := fun c => (hV k hk).2 (fun e => by
    have := (h3.2 k hk).2 e
    have t1 : zz s 65 k < 0 := this.1
    have t2 : zz s 66 k < 0 := this.2
    omega)
  rcases h with h | h
  · obtain ⟨g1, g2⟩ := key _ (Or.inl rfl) h
    rw [hu (Or.inl g1), g2]
    show _ < 1 + (szT (v y) + szT _)
    omega
  · obtain ⟨g1, g2⟩ := key _ (Or.inr rfl) h
    rw [hu (Or.inr g1), g2]
    show _ < 1 + (szT _ + szT (v y))
    omega
theorem WCh.sz {s : aZ} (hL : PLm ar P rt u s) {v : Nat → aT} (hV : Vl unM P (vwM s) v) : ∀ (L : List Nat) (k : Nat), (∀ y ∈ k :: L, y < P) → WCh rt s (k :: L) → ∀ y ∈ L, szT (v k) < szT (v y) := by
  intro L
  induction L with
  | nil => intro k _ _ y hy; exact absurd hy List.not_mem_nil
  | cons k2 L ih =>
    intro k hP h y hy
    have h2 := hP k2 (List.mem_cons_of_mem _ List.mem_cons_self)
    have a := sz_part hL hV h2 h.1
    rcases List.mem_cons.mp hy with rfl | hy
    · exact a
    · have := ih k2 (fun y hy => hP y (List.mem_cons_of_mem _ hy)) h.2 y hy
      omega
/-- the pile -/
def WPl (P : Nat) (rt : Nat → Nat) (s : aZ) (L : List Nat) : Prop := (∀ y ∈ L, y < P ∧ rt y = y) ∧ (∀ i, i < L.length → zz s 103 (L.length - 1 - i) = (L.getD i 0 : Nat)) ∧ (∀ k, k < P → zz s 100 k = 1 → k ∈ L) ∧ (∀ y ∈ L.tail, zz s 100 y = 1) ∧ WCh rt s L ∧ L.Nodup ∧ ∀ k L2, L = k :: L2 → (zz s 100 k = 2 ∧ L2 = []) ∨ (zz s 100 k = 0 ∧ L.length ≤ c1M P s + 1) ∨ (zz s 100 k = 1 ∧ L.length ≤ c1M P s)
/-- what weighing comes to -/
def WgO (P : Nat) (rt : Nat → Nat) (L : List Nat) (B : aH) (s : aZ) (l : aZL) (q : aR) : Prop := ∃ s2, q = (.inl none, mkH B s2 l) ∧ FrWg s s2 ∧ ((zz s2 56 22 = 3 ∧ zz s2 56 23 = zz s 72 0 ∧ ∀ v, ¬ Vl unM P (vwM s) v) ∨ (zz s2 56 22 = 0 ∧ zz s2 56 23 = zz s 56 23 ∧ WvI P rt s2 ∧ (∀ k, k < P → zz s2 100 k ≠ 1) ∧ ∀ y ∈ L, zz s2 100 y = 2))
theorem m_wloop (hB : a_Can B) {d : Nat} (hd : 2 ≤ d) (hP : P ≤ 29000) (l : aZL) (x1 : Int) : ∀ (φ : Nat) (L : List Nat) (s : aZ) (u3 u4 u5 u6 : Value), 2 * n2M P s ≤ φ + L.length → zz s 56 22 = 0 → PLm ar P rt u s → WvI P rt s → WPl P rt s L → a_W d 199 13 [.ref 56, iv x1, iv (L.length : Int), u3, u4, u5, u6] [] (mkH B s l) (WgO P rt L B s l) := by
  -- the end
  have fin0 : ∀ (L0 : List Nat) (s : aZ) (u3 u4 u5 u6 : Value), zz s 56 22 = 0 → WvI P rt s → (∀ k, k < P → zz s 100 k ≠ 1) → (∀ y ∈ L0, zz s 100 y = 2) → a_W d 199 13 [.ref 56, iv x1, iv 0, u3, u4, u5, u6] [] (mkH B s l) (WgO P rt L0 B s l) := fun L0 s u3 u4 u5 u6 h22 hW h1 h2 => w199_13 hB (by omega) _ _ _ _ _ _ s l ⟨by decide, fun _ => w199_333 hB _ _ _ _ _ _ s l ⟨s, rfl, FrWg.rf s, Or.inr ⟨h22, rfl, hW, h1, h2⟩⟩, fun c => absurd c (by decide)⟩
  intro φ
  induction φ with
  | zero =>
    intro L s u3 u4 u5 u6 hφ h22 hL hW hL2
    obtain ⟨p1, p2, p3, p4, p5, pN, p6⟩ := hL2
    cases L with
    | nil => exact fin0 [] s u3 u4 u5 u6 h22 hW (fun k hk e => absurd (p3 k hk e) List.not_mem_nil) (fun y hy => absurd hy List.not_mem_nil)
    | cons k L =>
      have hk := (p1 k List.mem_cons_self).1
      rcases p6 k L rfl with ⟨e1, e2⟩ | ⟨e1, e2⟩ | ⟨e1, e2⟩
      · subst e2
        have hlen : ([k].length : Int) = ((1 : Nat) : Int) := rfl
        rw [hlen]
        refine m_w13 hB hd hP s l hL.1 hL.2.1 h22 x1 1 k (by omega) (by omega) hk (p2 0 (by show 0 < 1; omega)) _ _ _ _ _ _ rfl rfl (fun x hx hn h2 => ?_) hW.1 (fun _ v3 v4 v5 v6 => ?_) (fun c => absurd e1 c) (fun c => absurd e1 c) (fun c => absurd e1 c)
        · have hr : x.toNat < P := by
            have := hL.1.2 k hk
            have hU := hL.2.1
            rcases hx with rfl | rfl
            · unfold prt at hn ⊢; split at hn
              · exact absurd rfl hn
              · rename_i c; rw [if_neg c, natc]; exact (hU _ (by omega)).2.1
            · unfold prt at hn ⊢; split at hn
              · exact absurd rfl hn
              · rename_i c; rw [if_neg c, natc]; exact (hU _ (by omega)).2.1
          have := (hW.2 _ hr h2).2.2.2.2.1
          omega
        · exact fin0 [k] s v3 v4 v5 v6 h22 hW (fun k' hk' e => by have := List.mem_singleton.mp (p3 k' hk' e); rw [this, e1] at e; omega) (fun y hy => by rw [List.mem_singleton.mp hy]; exact e1)
      · have := c1M_lt hk e1
        have := n2M_pos (s := s) hk (by omega)
        omega
      · have := c1M_le P s
        have := n2M_pos (s := s) hk (by omega)
        omega
  | succ φ ih =>
    intro L s u3 u4 u5 u6 hφ h22 hL hW hL2
    obtain ⟨p1, p2, p3, p4, p5, pN, p6⟩ := hL2
    cases L with
    | nil => exact fin0 [] s u3 u4 u5 u6 h22 hW (fun k hk e => absurd (p3 k hk e) List.not_mem_nil) (fun y hy => absurd hy List.not_mem_nil)
    | cons k L =>
      have hk := (p1 k List.mem_cons_self).1
      have hkr := (p1 k List.mem_cons_self).2
      have hlen : (k :: L).length = L.length + 1 := rfl
      have p6' := p6 k L rfl
      rw [hlen] at hφ p6'
      have hn2 := n2M_le P s
      have hc1 := c1M_le P s
      have hlP : L.length ≤ P := by
        rcases p6' with ⟨-, e⟩ | ⟨e1, e2⟩ | ⟨e1, e2⟩
        · rw [e]; exact Nat.zero_le _
        · omega
        · omega
      have prg : ∀ x : Int, pOf rt s x k → x ≠ -1 → 0 ≤ x ∧ x.toNat < P ∧ rt x.toNat = x.toNat ∧ ((x.toNat : Nat) : Int) = x := fun x hx hn => by
        have := hL.1.2 k hk
        have hU := hL.2.1
        have key : ∀ y : Int, -1 ≤ y → y < P → x = prt rt y → 0 ≤ x ∧ x.toNat < P ∧ rt x.toNat = x.toNat ∧ ((x.toNat : Nat) : Int) = x := fun y h1 h2 e => by
          unfold prt at e
          by_cases c : y < 0
          · rw [if_pos c] at e; exact absurd e hn
          · rw [if_neg c] at e
            rw [e, natc]
            obtain ⟨q1, q2⟩ := rt_rt hU (show y.toNat < P by omega)
            exact ⟨by omega, q1, q2, rfl⟩
        rcases hx with h | h
        · exact key _ (by omega) (by omega) h
        · exact key _ (by omega) (by omega) h
      rw [hlen]
      refine m_w13 hB hd hP s l hL.1 hL.2.1 h22 x1 (L.length + 1) k (by omega) (by omega) hk ?_ _ _ _ _ _ _ rfl rfl (fun x hx hn h2 => ?_) hW.1 (fun e1 v3 v4 v5 v6 => ?_) (fun hk2 x hx hn hx0 v3 v4 v5 v6 => ?_) (fun hk2 x hx hn hx1 v3 v4 v5 v6 => ?_) (fun hk2 hall v3 v4 v5 v6 => ?_)
      · have := p2 0 (by rw [hlen]; omega)
        rw [hlen] at this
        exact this
      · have := (hW.2 _ (prg x hx hn).2.1 h2).2.2.2.2.1
        omega
      · -- weighed before
        rcases p6' with ⟨-, e2⟩ | ⟨e2, -⟩ | ⟨e2, -⟩
        · subst e2
          exact fin0 [k] s v3 v4 v5 v6 h22 hW (fun k' hk' e => by have := List.mem_singleton.mp (p3 k' hk' e); rw [this, e1] at e; omega) (fun y hy => by rw [List.mem_singleton.mp hy]; exact e1)
        · omega
        · omega
      · -- a part is put on the pile
        obtain ⟨r1, r2, r3, r4⟩ := prg x hx hn
        obtain ⟨X, eX⟩ : ∃ X : Nat, X = x.toNat := ⟨_, rfl⟩
        rw [← eX] at r2 r3 r4 hx0
        subst r4
        have y0 : ∀ c j, (c ≠ 100 ∨ j ≠ k) → (c ≠ 103 ∨ j ≠ L.length + 1) → zz (zu (zu s 100 k 1) 103 (L.length + 1) (X : Int)) c j = zz s c j := fun c j h1 h2 => by rw [zz_ne _ _ _ _ _ _ (by omega), zz_ne _ _ _ _ _ _ (by omega)]
        have y1 : zz (zu (zu s 100 k 1) 103 (L.length + 1) (X : Int)) 100 k = 1 := by rw [zz_ne _ _ _ _ _ _ (by omega)]; exact zz_same _ _ _ (by decide)
        have y3 : zz (zu (zu s 100 k 1) 103 (L.length + 1) (X : Int)) 103 (L.length + 1) = (X : Int) := zz_same _ _ _ ⟨by omega, by omega⟩
        have hX0 : zz (zu (zu s 100 k 1) 103 (L.length + 1) (X : Int)) 100 X = 0 := by rw [zz_ne _ _ _ _ _ _ (by omega)]; exact hx0
        have ykk : ∀ c, c ≠ 100 → c ≠ 103 → (zu (zu s 100 k 1) 103 (L.length + 1) (X : Int)) c = s c := fun c h1 h2 => by rw [zu_ne _ _ _ _ _ h2, zu_ne _ _ _ _ _ h1]
        generalize zu (zu s 100 k 1) 103 (L.length + 1) (X : Int) = s5 at *
        have hXk : X ≠ k := fun e => by rw [e, y1] at hX0; omega
        have y100 : ∀ j, j ≠ k → zz s5 100 j = zz s 100 j := fun j hj => y0 100 j (Or.inr hj) (Or.inl (by decide))
        have i2 : ∀ j, zz s5 100 j = 2 ↔ zz s 100 j = 2 := fun j => by
          by_cases e : j = k
          · rw [e, y1]; exact ⟨fun c => by omega, fun c => absurd c hk2⟩
          · rw [y100 j e]
        have fr : FrWg s s5 := ⟨fun c h1 h2 => ykk c (by omega) (by omega), fun j _ _ => y0 56 j (Or.inl (by decide)) (Or.inl (by decide)), fun j h => ⟨(i2 j).mpr h, y0 101 j (Or.inl (by decide)) (Or.inl (by decide)), y0 102 j (Or.inl (by decide)) (Or.inl (by decide))⟩⟩
        have hn2' : n2M P s5 = n2M P s := n2M_eq i2
        have e65 : ∀ j, zz s5 65 j = zz s 65 j := fun j => y0 65 j (Or.inl (by decide)) (Or.inl (by decide))
        have e66 : ∀ j, zz s5 66 j = zz s 66 j := fun j => y0 66 j (Or.inl (by decide)) (Or.inl (by decide))
        have ewv : ∀ z : Int, wvM s5 z = wvM s z := fun z => by unfold wvM; rw [y0 101 _ (Or.inl (by decide)) (Or.inl (by decide))]
        have ehv : ∀ z : Int, hvM s5 z = hvM s z := fun z => by unfold hvM; rw [y0 102 _ (Or.inl (by decide)) (Or.inl (by decide))]
        have hc1' : L.length + 1 ≤ c1M P s5 := by
          rcases p6' with ⟨e, -⟩ | ⟨e1, e2⟩ | ⟨e1, e2⟩
          · exact absurd e hk2
          · have := c1M_up (s := s) (s2 := s5) hk (by omega) y1 y100; omega
          · have : c1M P s5 = c1M P s := c1M_eq (fun j => by
              by_cases e : j = k
              · rw [e, y1, e1]
              · exact y100 j e)
            omega
        have hW5 : WvI P rt s5 := by
          refine ⟨fun j hj => ?_, fun j hj h2 => ?_⟩
          · by_cases e : j = k
            · rw [e, y1]; decide
            · rw [y100 j e]; exact hW.1 j hj
          · obtain ⟨w1, w2, w3, w4, w5, w6, w7⟩ := hW.2 j hj ((i2 j).mp h2)
            unfold pOf
            rw [e65, e66, ewv, ewv, ehv, ehv, y0 101 j (Or.inl (by decide)) (Or.inl (by decide)), y0 102 j (Or.inl (by decide)) (Or.inl (by decide)), hn2']
            exact ⟨w1, fun x hx hn => (i2 _).mpr (w2 x hx hn), w3, w4, w5, w6, w7⟩
        have hPl5 : WPl P rt s5 (X :: k :: L) := by
          refine ⟨fun y hy => ?_, fun i hi => ?_, fun j hj e => ?_, fun y hy => ?_, ?_, List.nodup_cons.mpr ⟨fun hm => ?_, pN⟩, fun k2 L2 e => ?_⟩
          · rcases List.mem_cons.mp hy with e | hy
            · rw [e]; exact ⟨r2, r3⟩
            · exact p1 y hy
          · have hi' : i < L.length + 2 := hi
            show zz s5 103 (L.length + 2 - 1 - i) = _
            cases i with
            | zero => exact y3
            | succ i =>
              have := p2 i (by rw [hlen]; omega)
              rw [hlen] at this
              rw [show L.length + 2 - 1 - (i + 1) = L.length + 1 - 1 - i by omega, y0 103 _ (Or.inl (by decide)) (Or.inr (by omega))]
              exact this
          · by_cases ek : j = k
            · rw [ek]; exact List.mem_cons_of_mem _ List.mem_cons_self
            · rw [y100 j ek] at e
              exact List.mem_cons_of_mem _ (p3 j hj e)
          · rcases List.mem_cons.mp (show y ∈ k :: L from hy) with e | hy
            · rw [e]; exact y1
            · have h4 := p4 y hy
              by_cases ek : y = k
              · rw [ek]; exact y1
              · rw [y100 y ek]; exact h4
          · refine ⟨?_, WCh.keep (fun j => ⟨e65 j, e66 j⟩) _ p5⟩
            unfold pOf
            rw [e65, e66]
            exact hx
          · rcases List.mem_cons.mp hm with e | hm
            · exact hXk e
            · have h4 := p4 X hm
              rw [y100 X hXk, h4] at hX0
              omega
          · injection e with e1 e2
            subst e1
            right; left
            refine ⟨hX0, ?_⟩
            show L.length + 2 ≤ _
            omega
        have key := ih (X :: k :: L) s5 v3 v4 v5 v6 (by show 2 * n2M P s5 ≤ φ + (L.length + 2); omega) ((y0 56 22 (Or.inl (by decide)) (Or.inl (by decide))).trans h22) (hL.fr fr.eqP (y0 56 16 (Or.inl (by decide)) (Or.inl (by decide)))) hW5 hPl5
        rw [show (((X :: k :: L).length : Nat) : Int) = ((L.length + 1 : Nat) : Int) + 1 by show ((L.length + 2 : Nat) : Int) = _; omega] at key
        refine a_W.imp key ?_
        rintro _ ⟨s9, rfl, f9, h9⟩
        refine ⟨s9, rfl, fr.tr f9, ?_⟩
        rcases h9 with ⟨g1, g2, g3⟩ | ⟨g1, g2, g3, g4, g5⟩
        · refine Or.inl ⟨g1, g2.trans (zz_of (fr.1 72 (by decide) (by decide)) 0), ?_⟩
          rw [fr.eqP.vw] at g3
          exact g3
        · exact Or.inr ⟨g1, g2.trans (y0 56 23 (Or.inl (by decide)) (Or.inl (by decide))), g3, g4, fun y hy => g5 y (List.mem_cons_of_mem _ hy)⟩
      · -- a circle
        obtain ⟨r1, r2, r3, r4⟩ := prg x hx hn
        have e22 : zz (zu (diM (zu s 100 k 1)) 103 (L.length + 1) x) 56 22 = 3 := by unfold diM; rw [zz_ne _ _ _ _ _ _ (by omega), zz_ne _ _ _ _ _ _ (by omega)]; exact zz_same _ _ _ (by decide)
        have e23 : zz (zu (diM (zu s 100 k 1)) 103 (L.length + 1) x) 56 23 = zz s 72 0 := by unfold diM; rw [zz_ne _ _ _ _ _ _ (by omega), zz_same _ _ _ (inR_zz _ _ _), zz_ne _ _ _ _ _ _ (by omega)]
        have fr : FrWg s (zu (diM (zu s 100 k 1)) 103 (L.length + 1) x) := by
          unfold diM
          refine ⟨fun c h1 h2 => ?_, fun j h1 h2 => ?_, fun j h => ⟨?_, ?_, ?_⟩⟩
          · rw [zu_ne _ _ _ _ _ (by omega), zu_ne _ _ _ _ _ (by omega), zu_ne _ _ _ _ _ (by omega), zu_ne _ _ _ _ _ (by omega)]
          · rw [zz_ne _ _ _ _ _ _ (by omega), zz_ne _ _ _ _ _ _ (by omega), zz_ne _ _ _ _ _ _ (by omega), zz_ne _ _ _ _ _ _ (by omega)]
          · have : j ≠ k := fun e => hk2 (by rw [← e]; exact h)
            rw [zz_ne _ _ _ _ _ _ (by omega), zz_ne _ _ _ _ _ _ (by omega), zz_ne _ _ _ _ _ _ (by omega), zz_ne _ _ _ _ _ _ (by omega)]; exact h
          · rw [zz_ne _ _ _ _ _ _ (by omega), zz_ne _ _ _ _ _ _ (by omega), zz_ne _ _ _ _ _ _ (by omega), zz_ne _ _ _ _ _ _ (by omega)]
          · rw [zz_ne _ _ _ _ _ _ (by omega), zz_ne _ _ _ _ _ _ (by omega), zz_ne _ _ _ _ _ _ (by omega), zz_ne _ _ _ _ _ _ (by omega)]
        generalize zu (diM (zu s 100 k 1)) 103 (L.length + 1) x = s5 at *
        have no : ∀ v, ¬ Vl unM P (vwM s) v := fun v hV => by
          have hxk : szT (v x.toNat) < szT (v k) := sz_part hL hV hk (by rw [r4]; exact hx)
          have hmem : x.toNat ∈ k :: L := by
            by_cases e : x.toNat = k
            · rw [e]; exact List.mem_cons_self
            · rw [zz_ne _ _ _ _ _ _ (by omega)] at hx1
              exact p3 _ r2 hx1
          rcases List.mem_cons.mp hmem with e | hm
          · rw [e] at hxk; omega
          · have := WCh.sz hL hV L k (fun y hy => (p1 y hy).1) p5 _ hm
            omega
        have out : WgO P rt (k :: L) B s l (.inl none, mkH B s5 l) := ⟨s5, rfl, fr, Or.inl ⟨e22, e23, no⟩⟩
        exact w199_13 hB (by omega) _ _ _ _ _ _ s5 l ⟨⟨by omega, by omega⟩, fun _ => w199_333 hB _ _ _ _ _ _ s5 l out, fun _ => ⟨fun _ => w199_333 hB _ _ _ _ _ _ s5 l out, fun c => absurd c (by rw [e22]; decide)⟩⟩
      · -- k is weighed
        have y0 : ∀ c j, (c ≠ 100 ∨ j ≠ k) → zz (zu s 100 k 1) c j = zz s c j := fun c j h => zz_ne _ _ _ _ _ _ (by omega)
        have y1 : zz (zu s 100 k 1) 100 k = 1 := zz_same _ _ _ (by decide)
        have yk : ∀ c, c ≠ 100 → (zu s 100 k 1) c = s c := fun c h => zu_ne _ _ _ _ _ h
        have hc1' : L.length + 1 ≤ c1M P (zu s 100 k 1) := by
          rcases p6' with ⟨e, -⟩ | ⟨e1, e2⟩ | ⟨e1, e2⟩
          · exact absurd e hk2
          · have := c1M_up (s := s) (s2 := zu s 100 k 1) hk (by omega) y1 (fun j hj => y0 100 j (Or.inr hj)); omega
          · have : c1M P (zu s 100 k 1) = c1M P s := c1M_eq (fun j => by
              by_cases e : j = k
              · rw [e, y1, e1]
              · exact y0 100 j (Or.inr e))
            omega
        have ewv : ∀ z : Int, wvM (zu s 100 k 1) z = wvM s z := fun z => by unfold wvM; rw [y0 101 _ (Or.inl (by decide))]
        have ehv : ∀ z : Int, hvM (zu s 100 k 1) z = hvM s z := fun z => by unfold hvM; rw [y0 102 _ (Or.inl (by decide))]
        rw [ewv, ewv, ehv, ehv]
        have hne : ∀ x : Int, pOf rt s x k → x ≠ -1 → x.toNat ≠ k ∧ zz s 100 x.toNat = 2 := fun x hx hn => by
          have h2 := hall x hx hn
          have : x.toNat ≠ k := fun e => by rw [e, y1] at h2; omega
          rw [y0 100 _ (Or.inr this)] at h2
          exact ⟨this, h2⟩
        -- the weights
        have bw : ∀ x : Int, pOf rt s x k → 0 ≤ wvM s x ∧ wvM s x ≤ 100000 ∧ 0 ≤ hvM s x ∧ hvM s x + n2M P s ≤ P := fun x hx => by
          by_cases c : x = -1
          · rw [c]
            exact ⟨Int.le_refl _, by show (0 : Int) ≤ 100000; decide, Int.le_refl _, by show (0 : Int) + _ ≤ _; omega⟩
          · obtain ⟨q1, q2, q3, q4⟩ := prg x hx c
            obtain ⟨-, -, -, -, w5, w6, w7⟩ := hW.2 _ q2 (hne x hx c).2
            have a1 : wvM s x = zz s 101 x.toNat := if_neg c
            have a2 : hvM s x = zz s 102 x.toNat := if_neg c
            rw [a1, a2]
            omega
        obtain ⟨ba1, ba2, ba3, ba4⟩ := bw (prt rt (zz s 65 k)) (Or.inl rfl)
        obtain ⟨bb1, bb2, bb3, bb4⟩ := bw (prt rt (zz s 66 k)) (Or.inr rfl)
        have hn1 := n2M_pos (s := s) hk hk2
        have rW : inR (min (1 + wvM s (prt rt (zz s 65 k)) + wvM s (prt rt (zz s 66 k))) 100000) := ⟨by omega, by omega⟩
        have rH : inR (1 + max (hvM s (prt rt (zz s 65 k))) (hvM s (prt rt (zz s 66 k)))) := ⟨by omega, by omega⟩
        have z0 : ∀ c j, (c < 100 ∨ 102 < c ∨ j ≠ k) → zz (wgM (zu s 100 k 1) k (min (1 + wvM s (prt rt (zz s 65 k)) + wvM s (prt rt (zz s 66 k))) 100000) (1 + max (hvM s (prt rt (zz s 65 k))) (hvM s (prt rt (zz s 66 k))))) c j = zz s c j := fun c j h => by
          unfold wgM
          rw [zz_ne _ _ _ _ _ _ (by omega), zz_ne _ _ _ _ _ _ (by omega), zz_ne _ _ _ _ _ _ (by omega), zz_ne _ _ _ _ _ _ (by omega)]
        have zk : ∀ c, (c < 100 ∨ 102 < c) → (wgM (zu s 100 k 1) k (min (1 + wvM s (prt rt (zz s 65 k)) + wvM s (prt rt (zz s 66 k))) 100000) (1 + max (hvM s (prt rt (zz s 65 k))) (hvM s (prt rt (zz s 66 k))))) c = s c := fun c h => by
          unfold wgM
          rw [zu_ne _ _ _ _ _ (by omega), zu_ne _ _ _ _ _ (by omega), zu_ne _ _ _ _ _ (by omega), zu_ne _ _ _ _ _ (by omega)]
        have z100 : zz (wgM (zu s 100 k 1) k (min (1 + wvM s (prt rt (zz s 65 k)) + wvM s (prt rt (zz s 66 k))) 100000) (1 + max (hvM s (prt rt (zz s 65 k))) (hvM s (prt rt (zz s 66 k))))) 100 k = 2 := by unfold wgM; exact zz_same _ _ _ (by decide)
        have z101 : zz (wgM (zu s 100 k 1) k (min (1 + wvM s (prt rt (zz s 65 k)) + wvM s (prt rt (zz s 66 k))) 100000) (1 + max (hvM s (prt rt (zz s 65 k))) (hvM s (prt rt (zz s 66 k))))) 101 k = min (1 + wvM s (prt rt (zz s 65 k)) + wvM s (prt rt (zz s 66 k))) 100000 := by unfold wgM; rw [zz_ne _ _ _ _ _ _ (by omega), zz_ne _ _ _ _ _ _ (by omega)]; exact zz_same _ _ _ rW
        have z102 : zz (wgM (zu s 100 k 1) k (min (1 + wvM s (prt rt (zz s 65 k)) + wvM s (prt rt (zz s 66 k))) 100000) (1 + max (hvM s (prt rt (zz s 65 k))) (hvM s (prt rt (zz s 66 k))))) 102 k = 1 + max (hvM s (prt rt (zz s 65 k))) (hvM s (prt rt (zz s 66 k))) := by unfold wgM; rw [zz_ne _ _ _ _ _ _ (by omega)]; exact zz_same _ _ _ rH
        generalize wgM (zu s 100 k 1) k (min (1 + wvM s (prt rt (zz s 65 k)) + wvM s (prt rt (zz s 66 k))) 100000) (1 + max (hvM s (prt rt (zz s 65 k))) (hvM s (prt rt (zz s 66 k)))) = s5 at *
        have fr : FrWg s s5 := ⟨fun c h1 h2 => zk c (by omega), fun j _ _ => z0 56 j (Or.inl (by decide)), fun j h => by
          have : j ≠ k := fun e => hk2 (by rw [← e]; exact h)
          exact ⟨(z0 100 j (by omega)).trans h, z0 101 j (by omega), z0 102 j (by omega)⟩⟩
        have z100' : ∀ j, j ≠ k → zz s5 100 j = zz s 100 j := fun j hj => z0 100 j (by omega)
        have hn5 := n2M_fin (s := s) (s2 := s5) hk hk2 z100 z100'
        have hc5 := c1M_up (s := s5) (s2 := zu s 100 k 1) hk (by omega) y1 (fun j hj => (y0 100 j (Or.inr hj)).trans (z100' j hj).symm)
        have e65 : ∀ j, zz s5 65 j = zz s 65 j := fun j => z0 65 j (by omega)
        have e66 : ∀ j, zz s5 66 j = zz s 66 j := fun j => z0 66 j (by omega)
        have wv5 : ∀ (x : Int) (j : Nat), j < P → pOf rt s x j → (x ≠ -1 → zz s 100 x.toNat = 2) → wvM s5 x = wvM s x ∧ hvM s5 x = hvM s x := fun x j _ _ h => by
          unfold wvM hvM
          by_cases c : x = -1
          · rw [if_pos c, if_pos c, if_pos c, if_pos c]; exact ⟨rfl, rfl⟩
          · have : x.toNat ≠ k := fun e => hk2 (by rw [← e]; exact h c)
            rw [if_neg c, if_neg c, if_neg c, if_neg c, z0 101 _ (by omega), z0 102 _ (by omega)]; exact ⟨rfl, rfl⟩
        have hW5 : WvI P rt s5 := by
          refine ⟨fun j hj => ?_, fun j hj h2 => ?_⟩
          · by_cases e : j = k
            · rw [e, z100]; decide
            · rw [z100' j e]; exact hW.1 j hj
          · by_cases e : j = k
            · subst e
              have wa := wv5 (prt rt (zz s 65 j)) j hk (Or.inl rfl) (fun c => (hne _ (Or.inl rfl) c).2)
              have wb := wv5 (prt rt (zz s 66 j)) j hk (Or.inr rfl) (fun c => (hne _ (Or.inr rfl) c).2)
              unfold pOf
              rw [e65, e66, wa.1, wa.2, wb.1, wb.2, z101, z102]
              refine ⟨hkr, fun x hx hn => ?_, rfl, rfl, ⟨by omega, by omega⟩, by omega, by omega⟩
              obtain ⟨t1, t2⟩ := hne x hx hn
              rw [z100' _ t1]; exact t2
            · rw [z100' j e] at h2
              obtain ⟨w1, w2, w3, w4, w5, w6, w7⟩ := hW.2 j hj h2
              have wa := wv5 (prt rt (zz s 65 j)) j hj (Or.inl rfl) (fun c => w2 _ (Or.inl rfl) c)
              have wb := wv5 (prt rt (zz s 66 j)) j hj (Or.inr rfl) (fun c => w2 _ (Or.inr rfl) c)
              unfold pOf
              rw [e65, e66, wa.1, wa.2, wb.1, wb.2, z0 101 j (by omega), z0 102 j (by omega)]
              refine ⟨w1, fun x hx hn => (fr.2.2 _ (w2 x hx hn)).1, w3, w4, w5, w6, by omega⟩
        have hPl5 : WPl P rt s5 L := by
          refine ⟨fun y hy => p1 y (List.mem_cons_of_mem _ hy), fun i hi => ?_, fun j hj e => ?_, fun y hy => ?_, WCh.keep (fun j => ⟨e65 j, e66 j⟩) _ p5.tail, (List.nodup_cons.mp pN).2, fun k2 L2 e => ?_⟩
          · have := p2 (i + 1) (by rw [hlen]; omega)
            rw [hlen, show L.length + 1 - 1 - (i + 1) = L.length - 1 - i by omega] at this
            rw [z0 103 _ (by omega)]
            exact this
          · have ek : j ≠ k := fun c => by rw [c, z100] at e; omega
            rw [z100' j ek] at e
            rcases List.mem_cons.mp (p3 j hj e) with c | c
            · exact absurd c ek
            · exact c
          · have h4 := p4 y (List.mem_of_mem_tail hy)
            have ek : y ≠ k := fun c => (List.nodup_cons.mp pN).1 (by rw [← c]; exact List.mem_of_mem_tail hy)
            rw [z100' y ek]; exact h4
          · right; right
            refine ⟨?_, by omega⟩
            have hm : k2 ∈ L := by rw [e]; exact List.mem_cons_self
            have h4 := p4 k2 hm
            have ek : k2 ≠ k := fun c => (List.nodup_cons.mp pN).1 (by rw [← c]; exact hm)
            rw [z100' k2 ek]; exact h4
        have key := ih L s5 v3 v4 v5 v6 (by omega) ((z0 56 22 (by omega)).trans h22) (hL.fr fr.eqP (z0 56 16 (by omega))) hW5 hPl5
        rw [show ((L.length : Nat) : Int) = ((L.length + 1 : Nat) : Int) + (-1) by omega] at key
        refine a_W.imp key ?_
        rintro _ ⟨s9, rfl, f9, h9⟩
        refine ⟨s9, rfl, fr.tr f9, ?_⟩
        rcases h9 with ⟨g1, g2, g3⟩ | ⟨g1, g2, g3, g4, g5⟩
        · refine Or.inl ⟨g1, g2.trans (zz_of (fr.1 72 (by decide) (by decide)) 0), ?_⟩
          rw [fr.eqP.vw] at g3
          exact g3
        · refine Or.inr ⟨g1, g2.trans (z0 56 23 (by omega)), g3, g4, fun y hy => ?_⟩
          rcases List.mem_cons.mp hy with e | hy
          · rw [e]; exact (f9.2.2 k z100).1
          · exact g5 y hy
end
