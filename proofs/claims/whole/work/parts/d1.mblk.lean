/-! NEW NODES IN THE REFERENCE'S POOL -/
/-- the nodes from P0 on are new: each for itself, made of earlier ones -/
def BkM (ar : Int → Nat) (P0 P : Nat) (s : aZ) : Prop := ∀ k, P0 ≤ k → k < P → zz s 67 k = -1 ∧ (-1 ≤ zz s 65 k ∧ zz s 65 k < k) ∧ (-1 ≤ zz s 66 k ∧ zz s 66 k < k) ∧ -2000000 ≤ zz s 64 k ∧ (zz s 64 k ≠ unM → (0 ≤ zz s 65 k ↔ 1 ≤ ar (zz s 64 k)) ∧ (0 ≤ zz s 66 k ↔ 2 ≤ ar (zz s 64 k))) ∧ (zz s 64 k = unM → zz s 65 k < 0 ∧ zz s 66 k < 0)
theorem BkM.rf (ar : Int → Nat) (P : Nat) (s : aZ) : BkM ar P P s := fun k h1 h2 => absurd h2 (by omega)
theorem BkM.keep {ar : Int → Nat} {P0 P : Nat} {s s2 : aZ} (h : BkM ar P0 P s) (e : ∀ c, 64 ≤ c → c ≤ 67 → ∀ k, k < P → zz s2 c k = zz s c k) : BkM ar P0 P s2 := fun k h1 h2 => by
  rw [e 64 (by decide) (by decide) k h2, e 65 (by decide) (by decide) k h2, e 66 (by decide) (by decide) k h2, e 67 (by decide) (by decide) k h2]
  exact h k h1 h2
theorem BkM.app {ar : Int → Nat} {P0 P1 P : Nat} {s : aZ} (a : BkM ar P0 P1 s) (b : BkM ar P1 P s) : BkM ar P0 P s := fun k h1 h2 => if e : k < P1 then a k h1 e else b k (by omega) h2
/-- one more -/
theorem BkM.one {ar : Int → Nat} {P : Nat} {s : aZ} (c x y : Int) (h64 : zz s 64 P = c) (h65 : zz s 65 P = x) (h66 : zz s 66 P = y) (h67 : zz s 67 P = -1) (hx : -1 ≤ x ∧ x < P) (hy : -1 ≤ y ∧ y < P) (hc : -2000000 ≤ c) (ha : c ≠ unM → (0 ≤ x ↔ 1 ≤ ar c) ∧ (0 ≤ y ↔ 2 ≤ ar c)) (hu : c = unM → x < 0 ∧ y < 0) : BkM ar P (P + 1) s := fun k h1 h2 => by
  have e : k = P := by omega
  subst e
  rw [h64, h65, h66, h67]
  exact ⟨rfl, hx, hy, hc, ha, hu⟩
theorem BkM.nd {ar : Int → Nat} {P0 P : Nat} {s : aZ} (h : BkM ar P0 P s) (h0 : P0 ≤ P) (hP : P < 60000) (c x y : Int) (hcr : inR c) (hx : -1 ≤ x ∧ x < P) (hy : -1 ≤ y ∧ y < P) (hc : -2000000 ≤ c) (ha : c ≠ unM → (0 ≤ x ↔ 1 ≤ ar c) ∧ (0 ≤ y ↔ 2 ≤ ar c)) (hu : c = unM → x < 0 ∧ y < 0) : BkM ar P0 (P + 1) (ndM s P c x y) := by
  obtain ⟨n1, n2, n3, n4, -⟩ := ndM_at s P c x y hP hcr ⟨by omega, by omega⟩ ⟨by omega, by omega⟩
  exact (h.keep (fun q h1 h2 k hk => ndM_ne _ _ _ _ _ _ _ (by omega))).app (BkM.one c x y n1 n2 n3 n4 hx hy hc ha hu)
section
variable {ar : Int → Nat} {P0 P2 : Nat} {s s2 : aZ} {rt u : Nat → Nat}
theorem PEm.blk (h : PEm ar P0 s rt u) (h0 : 0 < P0) (hP : P0 ≤ P2) (h16 : zz s2 56 16 = (P2 : Nat)) (hf : ∀ c, 64 ≤ c → c ≤ 67 → ∀ k, k < P0 → zz s2 c k = zz s c k) (hN : BkM ar P0 P2 s2) : PEm ar P2 s2 (rtB P0 rt) (uB P0 u) ∧ (∀ v, Vl unM P2 (vwM s2) v → Vl unM P0 (vwM s) v) ∧ ∀ v, Vl unM P0 (vwM s) v → ∀ f : Nat → aT, ∃ v2, Vl unM P2 (vwM s2) v2 ∧ (∀ k, k < P0 → v2 k = v k) ∧ ∀ k, P0 ≤ k → k < P2 → zz s2 64 k = unM → v2 k = f k := by
  obtain ⟨h1, h2, h3, h4⟩ := h
  have e1 : ∀ k, k < P0 → (vwM s2).1 k = (vwM s).1 k ∧ (vwM s2).2.1 k = (vwM s).2.1 k ∧ (vwM s2).2.2.1 k = (vwM s).2.2.1 k ∧ (vwM s2).2.2.2 k = (vwM s).2.2.2 k := fun k hk => ⟨by show (if zz s2 67 k = -1 then k else (zz s2 67 k).toNat) = (if zz s 67 k = -1 then k else (zz s 67 k).toNat); rw [hf 67 (by decide) (by decide) k hk], hf 64 (by decide) (by decide) k hk, hf 65 (by decide) (by decide) k hk, hf 66 (by decide) (by decide) k hk⟩
  have e2 : ∀ k, P0 ≤ k → k < P2 → (vwM s2).1 k = k ∧ (vwM s2).2.2.1 k < k ∧ (vwM s2).2.2.2 k < k := fun k g1 g2 => by
    obtain ⟨n1, n2, n3, n4⟩ := hN k g1 g2
    exact ⟨if_pos n1, n2.2, n3.2⟩
  have hU1 : ∀ k, k < P0 → (vwM s).1 k < P0 := fun k hk => (h2 k hk).1
  have hPM : PMr P2 s2 := by
    refine ⟨h16, fun j hj => ?_⟩
    by_cases e : j < P0
    · rw [hf 65 (by decide) (by decide) j e, hf 66 (by decide) (by decide) j e, hf 67 (by decide) (by decide) j e]
      have := h1.2 j e
      omega
    · obtain ⟨n1, n2, n3, n4⟩ := hN j (by omega) hj
      omega
  refine ⟨⟨hPM, h2.blk h0 hP (fun k hk => (e1 k hk).1) (fun k a b => (e2 k a b).1), ⟨fun k hk => ?_, fun k hk => ?_⟩, fun k hk hc => ?_⟩, fun v hv => hv.cut hP e1, fun v hv f => hv.ext f hP h3.1 hU1 e1 e2⟩
  · refine ⟨(hPM.2 k hk).1, (hPM.2 k hk).2.1, ?_⟩
    by_cases e : k < P0
    · rw [(e1 k e).2.1]; exact (h3.1 k e).2.2
    · exact (hN k (by omega) hk).2.2.2.1
  · by_cases e : k < P0
    · obtain ⟨a1, a2, a3, a4⟩ := e1 k e
      rw [a2, a3, a4]
      exact h3.2 k e
    · exact (hN k (by omega) hk).2.2.2.2
  · by_cases e : k < P0
    · obtain ⟨a1, a2, a3, a4⟩ := e1 k e
      have hr := (h2 k e).2.1
      obtain ⟨b1, b2, b3, b4⟩ := e1 (rt k) hr
      rw [show rtB P0 rt k = rt k from if_pos e, a2, b2, a3, a4, b3, b4]
      rw [a2] at hc
      obtain ⟨c1, c2, c3⟩ := h4 k e hc
      obtain ⟨g1, g2, -⟩ := h3.1 k e
      obtain ⟨k1, k2, -⟩ := h3.1 (rt k) hr
      have p : ∀ x : Int, -1 ≤ x → x < P0 → prt (rtB P0 rt) x = prt rt x := fun x q1 q2 => by
        unfold prt
        by_cases q : x < 0
        · rw [if_pos q, if_pos q]
        · rw [if_neg q, if_neg q, show rtB P0 rt x.toNat = rt x.toNat from if_pos (by omega)]
      rw [p _ g1.1 g1.2, p _ g2.1 g2.2, p _ k1.1 k1.2, p _ k2.1 k2.2]
      exact ⟨c1, c2, c3⟩
    · rw [show rtB P0 rt k = k from if_neg e]
      exact ⟨rfl, rfl, rfl⟩
/-- the pool of the constants' types alone -/
theorem PEm.fix {ta : List Int} {fx : Nat} {s : aZ} (hF : MFx ta fx s) (h16 : zz s 56 16 = (fx : Nat)) (h67 : ∀ j, j < fx → zz s 67 j = -1) : PEm (arT ta) fx s (fun k => k) (fun _ => 0) ∧ ∃ v, Vl unM fx (vwM s) v := by
  have v1 : ∀ k, k < fx → (vwM s).1 k = k := fun k hk => if_pos (h67 k hk)
  have hn : nR fx (vwM s) = fx := by
    unfold nR
    have : (List.range fx).countP (fun k => decide ((vwM s).1 k = k)) = (List.range fx).length := List.countP_eq_length.mpr (fun k hk => decide_eq_true (v1 k (List.mem_range.mp hk)))
    rw [this, List.length_range]
  refine ⟨⟨⟨h16, fun j hj => ?_⟩, fun k hk => ?_, ⟨fun k hk => ?_, fun k hk => ?_⟩, fun k hk _ => ⟨rfl, rfl, rfl⟩⟩, ?_⟩
  · obtain ⟨a1, a2, a3, a4, a5⟩ := hF j hj
    rw [h67 j hj]
    omega
  · rw [v1 k hk, hn]
    exact ⟨hk, hk, rfl, rfl, fun _ => ⟨rfl, rfl⟩, fun c => absurd rfl c, Nat.le_of_eq (Nat.zero_add _)⟩
  · obtain ⟨a1, a2, a3, a4, a5⟩ := hF k hk
    exact ⟨⟨a1.1, by show zz s 65 k < _; omega⟩, ⟨a2.1, by show zz s 66 k < _; omega⟩, a3.1⟩
  · obtain ⟨a1, a2, a3, a4, a5⟩ := hF k hk
    exact ⟨fun _ => ⟨a4, a5⟩, fun c => absurd c a3.2.2⟩
  · have e := Vl.ext (un := unM) (A := vwM s) (A2 := vwM s) (P0 := 0) (P2 := fx) (v := fun _ => cNo) (fun k hk => absurd hk (Nat.not_lt_zero _)) (fun _ => cNo) (Nat.zero_le _) (fun k hk => absurd hk (Nat.not_lt_zero _)) (fun k hk => absurd hk (Nat.not_lt_zero _)) (fun k hk => absurd hk (Nat.not_lt_zero _)) (fun k _ hk => ?_)
    · obtain ⟨v2, h, -⟩ := e
      exact ⟨v2, h⟩
    · obtain ⟨a1, a2, a3, a4, a5⟩ := hF k hk
      exact ⟨v1 k hk, a1.2, a2.2⟩
/-- what nodes of a coded type stand for -/
theorem vm_NI {ta : List Int} {s : aZ} {lo hi P : Nat} {v : Nat → aT} (hP : hi ≤ P) (hV : Vl unM P (vwM s) v) (hO : ∀ j, lo ≤ j → j < hi → okD ta s j) : ∀ (C : aT) (w : Int), NI 64 65 66 s lo hi C w → nL C → ptT v w = C := by
  intro C
  induction C with
  | leaf q =>
    intro w h hn
    have h : w = -1 := h
    have hn : q = (0, 0) := hn
    subst h
    subst hn
    rfl
  | branch e x y ihx ihy =>
    intro w h hn
    obtain ⟨a1, a2, a3, a4⟩ := h
    obtain ⟨n1, n2⟩ := hn
    obtain ⟨-, -, ⟨o1, -, o2⟩, -⟩ := hO w.toNat (by omega) (by omega)
    have hk := (hV w.toNat (by omega)).2 o2
    rw [ptT_p _ _ (by omega), hk]
    have e1 : (vwM s).2.1 w.toNat = dec e := a2
    rw [e1, enc_dec (by omega), show ptT v ((vwM s).2.2.1 w.toNat) = x from ihx _ a3 n1, show ptT v ((vwM s).2.2.2 w.toNat) = y from ihy _ a4 n2]
end
