/-! CODED TYPES ARE WELL MADE -/
def isB : aT → Nat
  | .leaf _ => 0
  | .branch _ _ _ => 1
/-- each code takes as many parts as it has -/
def wfC (N : Nat) (ta : List Int) : aT → Prop
  | .leaf _ => True
  | .branch e x y => ((-30000 ≤ dec e ∧ dec e ≤ -1000 ∧ isB x = 0 ∧ isB y = 0) ∨ (0 ≤ dec e ∧ dec e < N ∧ ta.getD (dec e).toNat 0 = ((isB x + isB y : Nat) : Int))) ∧ isB y ≤ isB x ∧ wfC N ta x ∧ wfC N ta y
theorem wfC.code {N : Nat} {ta : List Int} : ∀ C : aT, wfC N ta C → cOk (fun c => c ≠ -1000000) C := by
  intro C
  induction C with
  | leaf _ => intro _; trivial
  | branch e x y ihx ihy =>
    intro h
    obtain ⟨h1, h2, h3, h4⟩ := h
    refine ⟨fun c => ?_, ihx h3, ihy h4⟩
    rcases h1 with ⟨a, -⟩ | ⟨a, -⟩ <;> omega
theorem isB_0 {C : aT} (h : isB C = 0) : pre C = [] := by
  cases C with
  | leaf q => rfl
  | branch e x y => exact absurd h (show ¬ ((1 : Nat) = 0) by decide)
theorem NI.none {kc kf ks : Nat} {s : aZ} {lo hi : Nat} {C : aT} (h : NI kc kf ks s lo hi C (-1)) : isB C = 0 := by
  cases C with
  | leaf q => rfl
  | branch e x y => have := h.1.1; omega
section
variable {B : aH} {t : Nat → Int} {n : Nat} {ns tn : List (List Int)} {ta : List Int}
theorem cd_all (hcap : XCap t n ns) (h2 : 2 < tn.length) (h2a : ta.getD 2 0 = 2) {s : aZ} {lo hi : Nat} : ∀ (T : aT) (b : Bool) (w y : Int), PI t n ns tn ta s lo hi T b w y → tyBad t n tn ta T = false → (b = false → wfC tn.length ta (cdT t n ns tn T) ∧ (pre (cdT t n ns tn T)).length = tyW T ∧ isB (cdT t n ns tn T) = 1) ∧ (b = true → wfC tn.length ta (cdF (cdT t n ns tn T)) ∧ wfC tn.length ta (cdS (cdT t n ns tn T)) ∧ (pre (cdF (cdT t n ns tn T))).length + (pre (cdS (cdT t n ns tn T))).length = tyW T ∧ isB (cdF (cdT t n ns tn T)) + isB (cdS (cdT t n ns tn T)) = argN T ∧ isB (cdS (cdT t n ns tn T)) ≤ isB (cdF (cdT t n ns tn T))) := by
  intro T
  induction T with
  | leaf q =>
    intro b w y h _
    cases b with
    | false =>
      obtain ⟨a1, a2, a3, a4, a5, a6, a7, a8⟩ := h
      refine ⟨fun _ => ?_, fun c => absurd c (by decide)⟩
      have e : cdT t n ns tn (.leaf q) = .branch (enc (-1000 - vT t n ns q.2)) cNo cNo := if_pos a5
      have v1 := ixn_rng (nsT t n ns q.2) (nmT t n (stT t n q.2))
      have v2 := (hcap q.2).1
      have v3 : 0 ≤ vT t n ns q.2 ∧ vT t n ns q.2 ≤ 3000 := by unfold vT; omega
      have ed := dec_enc (c := -1000 - vT t n ns q.2) (by omega)
      rw [e]
      refine ⟨⟨Or.inl ⟨by omega, by omega, rfl, rfl⟩, Nat.le_refl _, trivial, trivial⟩, ?_, rfl⟩
      rw [tyW_l, if_neg (by omega)]
      rfl
    | true =>
      obtain ⟨a1, a2, a3⟩ := h
      have e : cdT t n ns tn (.leaf q) = cNo := if_neg (by omega)
      refine ⟨fun c => absurd c (by decide), fun _ => ?_⟩
      rw [e, tyW_l, if_pos a1]
      exact ⟨trivial, trivial, rfl, rfl, Nat.le_refl _⟩
  | branch m a b iha ihb =>
    intro bb w y h hb
    obtain ⟨b1, b2, b3⟩ := bad_b hb
    cases bb with
    | false =>
      refine ⟨fun _ => ?_, fun c => absurd c (by decide)⟩
      obtain ⟨a1, a2, a3, a4, a5⟩ := h
      rcases a5 with ⟨c1, c2, c3, c4⟩ | ⟨c1, c0, c2, c3, c4⟩ | ⟨c1, c0, c2, -⟩
      · have e : cdT t n ns tn (.branch m a b) = .branch (enc 2) (cdT t n ns tn a) (cdT t n ns tn b) := if_pos c1
        obtain ⟨p1, p2, p3⟩ := (iha _ _ _ c3 b1).1 rfl
        obtain ⟨q1, q2, q3⟩ := (ihb _ _ _ c4 b2).1 rfl
        have ed := dec_enc (c := 2) (by decide)
        rw [e, tyW_b, if_neg (by omega), pre_b, List.length_cons, List.length_append, p2, q2]
        refine ⟨⟨Or.inr ⟨by omega, by omega, ?_⟩, by omega, p1, q1⟩, by omega, rfl⟩
        rw [ed, p3, q3]
        exact h2a
      · have e : cdT t n ns tn (.branch m a b) = .branch (enc (fd tn (nmW t n (stT t n (m / 4))) tn.length)) (cdF (cdT t n ns tn a)) (cdS (cdT t n ns tn a)) := (if_neg (by omega)).trans (if_neg (by omega))
        have fr := fd_rng tn (nmW t n (stT t n (m / 4)))
        obtain ⟨g1, g2⟩ := gdN_t.mp c2
        obtain ⟨p1, p2, p3, p4, p5⟩ := (iha _ _ _ c4 b1).2 rfl
        have ed := dec_enc (c := fd tn (nmW t n (stT t n (m / 4))) tn.length) (by omega)
        rw [e, tyW_b, if_neg (by omega), c0, tyW_l, if_pos rfl, pre_b, List.length_cons, List.length_append]
        refine ⟨⟨Or.inr ⟨by omega, by omega, ?_⟩, p5, p1, p2⟩, by omega, rfl⟩
        rw [ed, p4]
        exact g2
      · exact absurd (b3 c1) (by rw [c2]; decide)
    | true =>
      refine ⟨fun c => absurd c (by decide), fun _ => ?_⟩
      obtain ⟨m2, c1, c2⟩ := h
      have e : cdT t n ns tn (.branch m a b) = .branch 0 (cdT t n ns tn a) (cdF (cdT t n ns tn b)) := (if_neg (by omega)).trans (if_pos m2)
      obtain ⟨p1, p2, p3⟩ := (iha _ _ _ c1 b1).1 rfl
      obtain ⟨q1, q2, q3, q4, q5⟩ := (ihb _ _ _ c2 b2).2 rfl
      have hn := ((PI.code hcap _ _ _ _ c2 b2).2 rfl).2.none
      have hp := isB_0 hn
      rw [hp] at q3
      have q3' : (pre (cdF (cdT t n ns tn b))).length + 0 = tyW b := q3
      rw [e, tyW_b, if_pos m2]
      refine ⟨p1, q1, ?_, ?_, ?_⟩
      · show (pre (cdT t n ns tn a)).length + (pre (cdF (cdT t n ns tn b))).length = _
        omega
      · show isB (cdT t n ns tn a) + isB (cdF (cdT t n ns tn b)) = argN b + 1
        omega
      · show isB (cdF (cdT t n ns tn b)) ≤ isB (cdT t n ns tn a)
        rw [p3]
        generalize cdF (cdT t n ns tn b) = C
        cases C with
        | leaf q => exact Nat.zero_le _
        | branch e x y => exact Nat.le_refl _
end
