/-! THE READER WRITES A TYPE AS A ROW -/
/-- all its nodes speak for themselves -/
def NR (s : aZ) : aT → Int → Prop
  | .leaf _, _ => True
  | .branch _ x y, w => zz s 21 w.toNat = w ∧ NR s x (zz s 19 w.toNat) ∧ NR s y (zz s 20 w.toNat)
/-- all its codes are such -/
def cOk (p : Int → Prop) : aT → Prop
  | .leaf _ => True
  | .branch e x y => p (dec e) ∧ cOk p x ∧ cOk p y
theorem cOk.imp {p q : Int → Prop} (h : ∀ i, p i → q i) : ∀ T : aT, cOk p T → cOk q T := by
  intro T
  induction T with
  | leaf _ => intro _; trivial
  | branch m a b iha ihb =>
    intro hT
    obtain ⟨h1, h2, h3⟩ := hT
    exact ⟨h _ h1, iha h2, ihb h3⟩
theorem NR.keep {s s2 : aZ} {lo hi : Nat} (he : ∀ k j, 18 ≤ k → k ≤ 23 → lo ≤ j → j < hi → zz s2 k j = zz s k j) : ∀ (C : aT) (w : Int), NI 18 19 20 s lo hi C w → NR s C w → NR s2 C w := by
  intro C
  induction C with
  | leaf q => intro w _ _; trivial
  | branch e x y ihx ihy =>
    intro w hN hR
    obtain ⟨a1, a2, a3, a4⟩ := hN
    obtain ⟨b1, b2, b3⟩ := hR
    have z : ∀ k, 18 ≤ k → k ≤ 23 → zz s2 k w.toNat = zz s k w.toNat := fun k g1 g2 => he k w.toNat g1 g2 (by omega) (by omega)
    refine ⟨(z 21 (by decide) (by decide)).trans b1, ?_, ?_⟩
    · rw [z 19 (by decide) (by decide)]; exact ihx _ a3 b2
    · rw [z 20 (by decide) (by decide)]; exact ihy _ a4 b3
section
variable {B : aH} {t : Nat → Int} {n : Nat} {ns tn : List (List Int)} {ta : List Int}
theorem PI.root {s : aZ} {lo hi : Nat} : ∀ (T : aT) (b : Bool) (w y : Int), PI t n ns tn ta s lo hi T b w y → tyBad t n tn ta T = false → (b = false → NR s (cdT t n ns tn T) w) ∧ (b = true → NR s (cdF (cdT t n ns tn T)) w ∧ NR s (cdS (cdT t n ns tn T)) y) := by
  intro T
  induction T with
  | leaf q =>
    intro b w y h _
    cases b with
    | false =>
      obtain ⟨a1, a2, a3, a4, a5, a6, a7, a8⟩ := h
      refine ⟨fun _ => ?_, fun c => absurd c (by decide)⟩
      have e : cdT t n ns tn (.leaf q) = .branch (enc (-1000 - vT t n ns q.2)) cNo cNo := if_pos a5
      rw [e]
      exact ⟨a2, trivial, trivial⟩
    | true =>
      obtain ⟨a1, a2, a3⟩ := h
      have e : cdT t n ns tn (.leaf q) = cNo := if_neg (by omega)
      refine ⟨fun c => absurd c (by decide), fun _ => ?_⟩
      rw [e]
      exact ⟨trivial, trivial⟩
  | branch m a b iha ihb =>
    intro bb w y h hb
    obtain ⟨b1, b2, b3⟩ := bad_b hb
    cases bb with
    | false =>
      refine ⟨fun _ => ?_, fun c => absurd c (by decide)⟩
      obtain ⟨a1, a2, a3, a4, a5⟩ := h
      rcases a5 with ⟨c1, c2, c3, c4⟩ | ⟨c1, c0, c2, c3, c4⟩ | ⟨c1, c0, c2, -⟩
      · have e : cdT t n ns tn (.branch m a b) = .branch (enc 2) (cdT t n ns tn a) (cdT t n ns tn b) := if_pos c1
        rw [e]
        exact ⟨a2, (iha _ _ _ c3 b1).1 rfl, (ihb _ _ _ c4 b2).1 rfl⟩
      · have e : cdT t n ns tn (.branch m a b) = .branch (enc (fd tn (nmW t n (stT t n (m / 4))) tn.length)) (cdF (cdT t n ns tn a)) (cdS (cdT t n ns tn a)) := (if_neg (by omega)).trans (if_neg (by omega))
        rw [e]
        have r := (iha _ _ _ c4 b1).2 rfl
        exact ⟨a2, r.1, r.2⟩
      · exact absurd (b3 c1) (by rw [c2]; decide)
    | true =>
      refine ⟨fun c => absurd c (by decide), fun _ => ?_⟩
      obtain ⟨m2, c1, c2⟩ := h
      have e : cdT t n ns tn (.branch m a b) = .branch 0 (cdT t n ns tn a) (cdF (cdT t n ns tn b)) := (if_neg (by omega)).trans (if_pos m2)
      rw [e]
      exact ⟨(iha _ _ _ c1 b1).1 rfl, ((ihb _ _ _ c2 b2).2 rfl).1⟩
end
/-- nodes that wait to be written -/
def WS (s : aZ) (lo hi : Nat) : Nat → List aT → Prop
  | _, [] => True
  | 0, _ :: _ => False
  | p + 1, C :: Cs => NI 18 19 20 s lo hi C (zz s 24 p) ∧ NR s C (zz s 24 p) ∧ cOk (fun c => c ≠ -1000000) C ∧ 0 < (pre C).length ∧ WS s lo hi p Cs
theorem WS.keep {s s2 : aZ} {lo hi : Nat} (he : ∀ k j, 18 ≤ k → k ≤ 23 → lo ≤ j → j < hi → zz s2 k j = zz s k j) : ∀ (p : Nat) (Cs : List aT), (∀ j, j < p → zz s2 24 j = zz s 24 j) → WS s lo hi p Cs → WS s2 lo hi p Cs := by
  intro p
  induction p with
  | zero =>
    intro Cs _ h
    cases Cs with
    | nil => trivial
    | cons C Cs => exact h
  | succ p ih =>
    intro Cs h24 h
    cases Cs with
    | nil => trivial
    | cons C Cs =>
      obtain ⟨a1, a2, a3, a4, a5⟩ := h
      refine ⟨?_, ?_, a3, a4, ih Cs (fun j hj => h24 j (by omega)) a5⟩
      · rw [h24 p (by omega)]; exact NI.keep (fun k j g g1 g2 => he k j (by omega) (by omega) g1 g2) (Nat.le_refl _) (Nat.le_refl _) _ _ a1
      · rw [h24 p (by omega)]; exact NR.keep he _ _ a1 a2
def pres : List aT → List Int
  | [] => []
  | C :: Cs => pre C ++ pres Cs
theorem pre_nil {C : aT} (h : (pre C).length = 0) : ∃ q, C = .leaf q := by
  cases C with
  | leaf q => exact ⟨q, rfl⟩
  | branch e x y => exact absurd h (by show ¬ ((pre x ++ pre y).length + 1 = 0); omega)
theorem pre_l (q : Nat × Nat) : pre (.leaf q) = [] := rfl
theorem pre_b (e : Nat) (x y : aT) : pre (.branch e x y) = dec e :: (pre x ++ pre y) := rfl
theorem x_write_loop {B : aH} (hB : a_Can B) {d : Nat} (hd : 1 ≤ d) (l : aZL) (x1 x3 : Int) (P lo hi : Nat) (hP : P ≤ 17000) (hhi : hi ≤ P) : ∀ (k : Nat) (Cs : List aT) (at' : Nat) (u6 : Value) (s : aZ), (pres Cs).length ≤ k → at' + (pres Cs).length ≤ 4480 → PP P s → Cs.length + (pres Cs).length ≤ 16000 → WS s lo hi Cs.length Cs → a_W d 115 13 [.ref 17, iv x1, .ref 32, iv x3, iv (Cs.length : Int), iv (at' : Int), u6] [] (mkH B s l) (fun q => ∃ s2, q = (.inl (some (iv ((at' + (pres Cs).length : Nat) : Int))), mkH B s2 l) ∧ (∀ k, k ≠ 24 → k ≠ 32 → s2 k = s k) ∧ (∀ j, j < (pres Cs).length → zz s2 32 (at' + j) = (pres Cs).getD j 0) ∧ ∀ j, (j < at' ∨ at' + (pres Cs).length ≤ j) → zz s2 32 j = zz s 32 j) := by
  intro k
  induction k with
  | zero =>
    intro Cs at' u6 s hk ha hPP hlen hW
    cases Cs with
    | nil =>
      have ex : a_W d 115 95 [.ref 17, iv x1, .ref 32, iv x3, iv ((([] : List aT).length : Nat) : Int), iv (at' : Int), u6] [] (mkH B s l) (fun q => ∃ s2, q = (.inl (some (iv ((at' + (pres []).length : Nat) : Int))), mkH B s2 l) ∧ (∀ k, k ≠ 24 → k ≠ 32 → s2 k = s k) ∧ (∀ j, j < (pres []).length → zz s2 32 (at' + j) = (pres []).getD j 0) ∧ ∀ j, (j < at' ∨ at' + (pres []).length ≤ j) → zz s2 32 j = zz s 32 j) := w115_95 hB x1 x3 _ _ u6 s l ⟨s, rfl, fun _ _ _ => rfl, fun j hj => absurd hj (Nat.not_lt_zero _), fun _ _ => rfl⟩
      exact w115_13 hB (by omega) x1 x3 _ _ u6 s l ⟨⟨by omega, by omega⟩, fun _ => ex, fun _ => ⟨by decide, fun _ => ex, fun c => absurd c (by decide)⟩⟩
    | cons C Cs =>
      exfalso
      have h1 := hW.2.2.2.1
      have h2 : (pres (C :: Cs)).length = (pre C).length + (pres Cs).length := List.length_append
      omega
  | succ k ih =>
    intro Cs at' u6 s hk ha hPP hlen hW
    cases Cs with
    | nil => exact ih [] at' u6 s (Nat.zero_le _) ha hPP hlen hW
    | cons C Cs =>
      have el : (C :: Cs).length = Cs.length + 1 := List.length_cons
      have ep : (pres (C :: Cs)).length = (pre C).length + (pres Cs).length := List.length_append
      rw [el] at hW hlen
      rw [ep] at hk ha hlen
      obtain ⟨w1, w2, w3, w4, w5⟩ := hW
      cases C with
      | leaf q => exact absurd w4 (by rw [pre_l]; decide)
      | branch e x y =>
        obtain ⟨n1, n2, n3, n4⟩ := w1
        obtain ⟨r1, r2, r3⟩ := w2
        obtain ⟨c1, c2, c3⟩ := w3
        have epre : (pre (.branch e x y)).length = 1 + ((pre x).length + (pre y).length) := by rw [pre_b, List.length_cons, List.length_append]; omega
        rw [epre] at ha hk hlen ep
        obtain ⟨w, ew⟩ : ∃ w : Nat, zz s 24 Cs.length = w := ⟨(zz s 24 Cs.length).toNat, by omega⟩
        rw [ew, natc] at n2 n3 n4 r1 r2 r3
        rw [ew] at n1
        refine w115_13 hB (by omega) x1 x3 _ _ u6 s l ⟨⟨by omega, by omega⟩, fun c => absurd c (by omega), fun _ => ⟨by rw [el]; exact ⟨by omega, by omega⟩, fun c => absurd c (by rw [el]; omega), fun _ => ⟨fun c => absurd c (by rw [el]; omega), fun _ => ⟨by rw [el]; exact ⟨by omega, by omega⟩, ?_⟩⟩⟩⟩
        rw [el, show ((Cs.length + 1 : Nat) : Int) + (-1) = (Cs.length : Int) by omega, natc, ew]
        refine a_W.imp (x_find hB l P hP w s (by omega) hPP) ?_
        rintro _ ⟨s7, r, rfl, f1, f2, f3, f4, f5⟩
        obtain ⟨g1, g2⟩ := f3 r1 (by decide)
        rw [g1, g2]
        refine ⟨_, s, l, rfl, ⟨by omega, by omega⟩, ?_⟩
        rw [natc, natc]
        refine ⟨fun _ => ⟨⟨by omega, by omega⟩, ?_⟩, fun c => absurd (n2.symm.trans c) c1⟩
        have h18 := inR_zz s 18 w
        -- what is behind one step
        have nxt : ∀ (s1 : aZ) (Ds : List aT), (∀ k, k ≠ 24 → k ≠ 32 → s1 k = s k) → zz s1 32 at' = dec e → (∀ j, j ≠ at' → zz s1 32 j = zz s 32 j) → pres Ds = pre x ++ pre y ++ pres Cs → Ds.length ≤ Cs.length + 2 → WS s1 lo hi Ds.length Ds → a_W d 115 13 [.ref 17, iv x1, .ref 32, iv x3, iv (Ds.length : Int), iv ((at' : Int) + 1), iv (w : Int)] [] (mkH B s1 l) (fun q => ∃ s2, q = (.inl (some (iv ((at' + (pres (.branch e x y :: Cs)).length : Nat) : Int))), mkH B s2 l) ∧ (∀ k, k ≠ 24 → k ≠ 32 → s2 k = s k) ∧ (∀ j, j < (pres (.branch e x y :: Cs)).length → zz s2 32 (at' + j) = (pres (.branch e x y :: Cs)).getD j 0) ∧ ∀ j, (j < at' ∨ at' + (pres (.branch e x y :: Cs)).length ≤ j) → zz s2 32 j = zz s 32 j) := by
          intro s1 Ds k1 k2 k3 hD hDl hWS
          have elD : (pres Ds).length = (pre x).length + (pre y).length + (pres Cs).length := by rw [hD, List.length_append, List.length_append]
          have eD : pres (.branch e x y :: Cs) = dec e :: pres Ds := by
            rw [hD]
            show dec e :: (pre x ++ pre y) ++ pres Cs = _
            rfl
          rw [show (at' : Int) + 1 = ((at' + 1 : Nat) : Int) by omega]
          refine a_W.imp (ih Ds (at' + 1) _ s1 (by omega) (by omega) (fun j hj => by rw [zz_of (k1 21 (by decide) (by decide))]; exact hPP j hj) (by omega) hWS) ?_
          rintro _ ⟨s2, rfl, q1, q2, q3⟩
          rw [eD]
          refine ⟨s2, ?_, fun k g1 g2 => (q1 k g1 g2).trans (k1 k g1 g2), fun j hj => ?_, fun j hj => ?_⟩
          · rw [List.length_cons, show at' + 1 + (pres Ds).length = at' + ((pres Ds).length + 1) by omega]
          · cases j with
            | zero =>
              rw [Nat.add_zero, q3 at' (Or.inl (by omega)), k2]
              rfl
            | succ j =>
              rw [List.length_cons] at hj
              rw [show at' + (j + 1) = at' + 1 + j by omega, q2 j (by omega)]
              rfl
          · rw [List.length_cons] at hj
            rw [q3 j (by omega), k3 j (by omega)]
        have keep : ∀ (s1 : aZ), (∀ k, k ≠ 24 → k ≠ 32 → s1 k = s k) → ∀ k j, 18 ≤ k → k ≤ 23 → lo ≤ j → j < hi → zz s1 k j = zz s k j := fun s1 h k j g1 g2 _ _ => zz_of (h k (by omega) (by omega)) j
        refine ⟨fun gy => ⟨fun gx => ⟨⟨by omega, by omega⟩, ?_⟩, fun gx => ?_⟩, fun gy => ⟨fun gx => ?_, fun gx => ?_⟩⟩
        · -- two parts
          have py : 0 < (pre y).length := by
            apply Nat.pos_of_ne_zero
            intro h
            obtain ⟨q, rfl⟩ := pre_nil h
            have n4' : zz s 20 w = -1 := n4
            omega
          have px : 0 < (pre x).length := by
            apply Nat.pos_of_ne_zero
            intro h
            obtain ⟨q, rfl⟩ := pre_nil h
            have n3' : zz s 19 w = -1 := n3
            omega
          rw [show (Cs.length : Int) + 1 + 1 = (((x :: y :: Cs).length : Nat) : Int) by rw [List.length_cons, List.length_cons]; omega, show ((Cs.length : Int) + 1).toNat = Cs.length + 1 by omega]
          have k1 : ∀ k, k ≠ 24 → k ≠ 32 → zu (zu (zu s 32 at' (zz s 18 w)) 24 Cs.length (zz s 20 w)) 24 (Cs.length + 1) (zz s 19 w) k = s k := fun k g1 g2 => by rw [zu_ne _ _ _ _ _ g1, zu_ne _ _ _ _ _ g1, zu_ne _ _ _ _ _ g2]
          refine nxt _ (x :: y :: Cs) k1 ?_ (fun j hj => ?_) ?_ ?_ ?_
          · rw [zz_ne _ _ _ _ _ _ (by omega), zz_ne _ _ _ _ _ _ (by omega), zz_same _ _ _ h18, n2]
          · rw [zz_ne _ _ _ _ _ _ (by omega), zz_ne _ _ _ _ _ _ (by omega), zz_ne _ _ _ _ _ _ (by omega)]
          · show pre x ++ (pre y ++ pres Cs) = _
            rw [List.append_assoc]
          · rw [List.length_cons, List.length_cons]
            exact Nat.le_refl _
          · have kp := keep _ k1
            have e1 : zz (zu (zu (zu s 32 at' (zz s 18 w)) 24 Cs.length (zz s 20 w)) 24 (Cs.length + 1) (zz s 19 w)) 24 (Cs.length + 1) = zz s 19 w := zz_same _ _ _ (inR_zz _ _ _)
            have e2 : zz (zu (zu (zu s 32 at' (zz s 18 w)) 24 Cs.length (zz s 20 w)) 24 (Cs.length + 1) (zz s 19 w)) 24 Cs.length = zz s 20 w := by rw [zz_ne _ _ _ _ _ _ (by omega), zz_same _ _ _ (inR_zz _ _ _)]
            have e3 : ∀ j, j < Cs.length → zz (zu (zu (zu s 32 at' (zz s 18 w)) 24 Cs.length (zz s 20 w)) 24 (Cs.length + 1) (zz s 19 w)) 24 j = zz s 24 j := fun j hj => by rw [zz_ne _ _ _ _ _ _ (by omega), zz_ne _ _ _ _ _ _ (by omega), zz_ne _ _ _ _ _ _ (by omega)]
            refine ⟨?_, ?_, c2, px, ?_, ?_, c3, py, WS.keep kp _ _ e3 w5⟩
            · show NI _ _ _ _ _ _ _ (zz _ 24 (Cs.length + 1))
              rw [e1]; exact NI.keep (fun k j g g1 g2 => kp k j (by omega) (by omega) g1 g2) (Nat.le_refl _) (Nat.le_refl _) _ _ n3
            · show NR _ _ (zz _ 24 (Cs.length + 1))
              rw [e1]; exact NR.keep kp _ _ n3 r2
            · rw [e2]; exact NI.keep (fun k j g g1 g2 => kp k j (by omega) (by omega) g1 g2) (Nat.le_refl _) (Nat.le_refl _) _ _ n4
            · rw [e2]; exact NR.keep kp _ _ n4 r3
        · -- a second alone
          have ex : ∃ q, x = .leaf q := by
            cases x with
            | branch e' x' y' => exact absurd n3.1.1 (by omega)
            | leaf q => exact ⟨q, rfl⟩
          obtain ⟨q, rfl⟩ := ex
          have py : 0 < (pre y).length := by
            apply Nat.pos_of_ne_zero
            intro h
            obtain ⟨q, rfl⟩ := pre_nil h
            have n4' : zz s 20 w = -1 := n4
            omega
          rw [show (Cs.length : Int) + 1 = (((y :: Cs).length : Nat) : Int) by rw [List.length_cons]; omega]
          have k1 : ∀ k, k ≠ 24 → k ≠ 32 → zu (zu s 32 at' (zz s 18 w)) 24 Cs.length (zz s 20 w) k = s k := fun k g1 g2 => by rw [zu_ne _ _ _ _ _ g1, zu_ne _ _ _ _ _ g2]
          refine nxt _ (y :: Cs) k1 ?_ (fun j hj => ?_) rfl ?_ ?_
          · rw [zz_ne _ _ _ _ _ _ (by omega), zz_same _ _ _ h18, n2]
          · rw [zz_ne _ _ _ _ _ _ (by omega), zz_ne _ _ _ _ _ _ (by omega)]
          · rw [List.length_cons]
            omega
          · have kp := keep _ k1
            have e1 : zz (zu (zu s 32 at' (zz s 18 w)) 24 Cs.length (zz s 20 w)) 24 Cs.length = zz s 20 w := zz_same _ _ _ (inR_zz _ _ _)
            have e3 : ∀ j, j < Cs.length → zz (zu (zu s 32 at' (zz s 18 w)) 24 Cs.length (zz s 20 w)) 24 j = zz s 24 j := fun j hj => by rw [zz_ne _ _ _ _ _ _ (by omega), zz_ne _ _ _ _ _ _ (by omega)]
            refine ⟨?_, ?_, c3, py, WS.keep kp _ _ e3 w5⟩
            · rw [e1]; exact NI.keep (fun k j g g1 g2 => kp k j (by omega) (by omega) g1 g2) (Nat.le_refl _) (Nat.le_refl _) _ _ n4
            · rw [e1]; exact NR.keep kp _ _ n4 r3
        · -- one part
          have ey : ∃ q, y = .leaf q := by
            cases y with
            | branch e' x' y' => exact absurd n4.1.1 (by omega)
            | leaf q => exact ⟨q, rfl⟩
          obtain ⟨q, rfl⟩ := ey
          have px : 0 < (pre x).length := by
            apply Nat.pos_of_ne_zero
            intro h
            obtain ⟨q, rfl⟩ := pre_nil h
            have n3' : zz s 19 w = -1 := n3
            omega
          rw [show (Cs.length : Int) + 1 = (((x :: Cs).length : Nat) : Int) by rw [List.length_cons]; omega]
          have k1 : ∀ k, k ≠ 24 → k ≠ 32 → zu (zu s 32 at' (zz s 18 w)) 24 Cs.length (zz s 19 w) k = s k := fun k g1 g2 => by rw [zu_ne _ _ _ _ _ g1, zu_ne _ _ _ _ _ g2]
          refine nxt _ (x :: Cs) k1 ?_ (fun j hj => ?_) ?_ ?_ ?_
          · rw [zz_ne _ _ _ _ _ _ (by omega), zz_same _ _ _ h18, n2]
          · rw [zz_ne _ _ _ _ _ _ (by omega), zz_ne _ _ _ _ _ _ (by omega)]
          · show pre x ++ pres Cs = pre x ++ [] ++ pres Cs
            rw [List.append_nil]
          · rw [List.length_cons]
            omega
          · have kp := keep _ k1
            have e1 : zz (zu (zu s 32 at' (zz s 18 w)) 24 Cs.length (zz s 19 w)) 24 Cs.length = zz s 19 w := zz_same _ _ _ (inR_zz _ _ _)
            have e3 : ∀ j, j < Cs.length → zz (zu (zu s 32 at' (zz s 18 w)) 24 Cs.length (zz s 19 w)) 24 j = zz s 24 j := fun j hj => by rw [zz_ne _ _ _ _ _ _ (by omega), zz_ne _ _ _ _ _ _ (by omega)]
            refine ⟨?_, ?_, c2, px, WS.keep kp _ _ e3 w5⟩
            · rw [e1]; exact NI.keep (fun k j g g1 g2 => kp k j (by omega) (by omega) g1 g2) (Nat.le_refl _) (Nat.le_refl _) _ _ n3
            · rw [e1]; exact NR.keep kp _ _ n3 r2
        · -- none
          have ey : ∃ q, y = .leaf q := by
            cases y with
            | branch e' x' y' => exact absurd n4.1.1 (by omega)
            | leaf q => exact ⟨q, rfl⟩
          have ex : ∃ q, x = .leaf q := by
            cases x with
            | branch e' x' y' => exact absurd n3.1.1 (by omega)
            | leaf q => exact ⟨q, rfl⟩
          obtain ⟨q, rfl⟩ := ey
          obtain ⟨q', rfl⟩ := ex
          have k1 : ∀ k, k ≠ 24 → k ≠ 32 → zu s 32 at' (zz s 18 w) k = s k := fun k g1 g2 => by rw [zu_ne _ _ _ _ _ g2]
          refine nxt _ Cs k1 ?_ (fun j hj => ?_) rfl (by omega) ?_
          · rw [zz_same _ _ _ h18, n2]
          · rw [zz_ne _ _ _ _ _ _ (by omega)]
          · exact WS.keep (keep _ k1) _ _ (fun j hj => zz_ne _ _ _ _ _ _ (by omega)) w5
/-- a type is written -/
theorem x_write {B : aH} (hB : a_Can B) {d : Nat} (hd : 1 ≤ d) (l : aZL) (P lo hi : Nat) (hP : P ≤ 17000) (hhi : hi ≤ P) (C : aT) (w at' : Nat) (s : aZ) (ha : at' + (pre C).length ≤ 4480) (hPP : PP P s) (h1 : NI 18 19 20 s lo hi C w) (h2 : NR s C w) (h3 : cOk (fun c => c ≠ -1000000) C) (h4 : 0 < (pre C).length) (hw : w < 17000) : a_W d 115 0 [.ref 17, iv (w : Int), .ref 32, iv (at' : Int), .retAddr 0, .retAddr 0, .retAddr 0] [] (mkH B s l) (fun q => ∃ s2, q = (.inl (some (iv ((at' + (pre C).length : Nat) : Int))), mkH B s2 l) ∧ (∀ k, k ≠ 24 → k ≠ 32 → s2 k = s k) ∧ (∀ j, j < (pre C).length → zz s2 32 (at' + j) = (pre C).getD j 0) ∧ ∀ j, (j < at' ∨ at' + (pre C).length ≤ j) → zz s2 32 j = zz s 32 j) := by
  refine w115_0 hB _ _ s l ?_
  have e1 : pres [C] = pre C := List.append_nil _
  have e24 : zz (zu s 24 0 (w : Int)) 24 0 = w := zz_same _ _ _ ⟨by omega, by omega⟩
  have kp : ∀ k j, 18 ≤ k → k ≤ 23 → lo ≤ j → j < hi → zz (zu s 24 0 (w : Int)) k j = zz s k j := fun k j g1 g2 _ _ => zz_ne _ _ _ _ _ _ (by omega)
  have hW : WS (zu s 24 0 (w : Int)) lo hi 1 [C] := by
    refine ⟨?_, ?_, h3, h4, trivial⟩
    · rw [e24]; exact NI.keep (fun k j g g1 g2 => kp k j (by omega) (by omega) g1 g2) (Nat.le_refl _) (Nat.le_refl _) _ _ h1
    · rw [e24]; exact NR.keep kp _ _ h1 h2
  have := x_write_loop hB hd l (w : Int) (at' : Int) P lo hi hP hhi (pre C).length [C] at' (.retAddr 0) (zu s 24 0 (w : Int)) (by rw [e1]; exact Nat.le_refl _) (by rw [e1]; exact ha) (fun j hj => by rw [zz_ne _ _ _ _ _ _ (by omega)]; exact hPP j hj) (by rw [e1]; show 1 + _ ≤ _; omega) hW
  rw [e1] at this
  refine a_W.imp this ?_
  rintro _ ⟨s2, rfl, q1, q2, q3⟩
  exact ⟨s2, rfl, fun k g1 g2 => (q1 k g1 g2).trans (zu_ne _ _ _ _ _ g1), q2, fun j hj => (q3 j hj).trans (zz_ne _ _ _ _ _ _ (by omega))⟩
