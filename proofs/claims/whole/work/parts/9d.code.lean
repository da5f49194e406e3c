/-! CODED TYPES; THE REFERENCE'S MEANING OF A WRITTEN TYPE -/
/-- all names of a type are such -/
def nmOk (p : Nat → Prop) : aT → Prop
  | .leaf _ => True
  | .branch m a b => (m % 4 = 1 → p (m / 4)) ∧ nmOk p a ∧ nmOk p b
theorem nmOk.imp {p q : Nat → Prop} (h : ∀ i, p i → q i) : ∀ T : aT, nmOk p T → nmOk q T := by
  intro T
  induction T with
  | leaf _ => intro _; trivial
  | branch m a b iha ihb =>
    intro hT
    obtain ⟨h1, h2, h3⟩ := hT
    exact ⟨fun g => h _ (h1 g), iha h2, ihb h3⟩
theorem pty_nm (t : Nat → Int) (n : Nat) : ∀ (N m dep i : Nat) (T : aT) (j : Nat), m ≤ 3 → (m = 2 → kdT t n i = 4) → i ≤ 6000 → pty t n N m dep i = some (.inr (T, j)) → nmOk (fun q => q < j ∧ ftT t n q = 0 ∧ kdT t n q = 1) T := by
  intro N
  induction N with
  | zero => intro m dep i T j _ _ _ h; exact absurd (show (none : aPr) = some _ from h) (by intro h; cases h)
  | succ N ih =>
    intro m dep i T j hm h2 hi h
    have nx : ∀ q, ftT t n q = 0 → kdT t n q ≠ 0 → q < 6000 := fun q h0 hk => by
      have := kd_rng h0
      exact (ft0 h0 (by omega)).1
    rcases (show m = 0 ∨ m = 1 ∨ m = 2 ∨ m = 3 by omega) with rfl | rfl | rfl | rfl
    · rw [pty_0] at h
      rcases pLk_some h with ⟨c, e⟩ | ⟨h0, h⟩
      · cases e
      rcases pBd_some h with ⟨e, q1, q2⟩ | ⟨a, j1, q1, q2⟩
      · cases q2
      have k1 := (pty_le t n N 1 dep i _ (by decide) (fun c => absurd c (by decide)) hi q1).1 a j1 rfl
      have ia := ih 1 dep i a j1 (by decide) (fun c => absurd c (by decide)) hi q1
      unfold pA at q2
      rcases pLk_some q2 with ⟨c, e⟩ | ⟨g0, q2⟩
      · cases e
      by_cases k8 : kdT t n j1 = 8
      · rw [if_pos k8] at q2
        have hj := nx j1 g0 (by omega)
        rcases pBd_some q2 with ⟨e, r1, r2⟩ | ⟨b, j2, r1, r2⟩
        · cases r2
        · have k2 := (pty_le t n N 0 dep (j1 + 1) _ (by decide) (fun c => absurd c (by decide)) (by omega) r1).1 b j2 rfl
          have ib := ih 0 dep (j1 + 1) b j2 (by decide) (fun c => absurd c (by decide)) (by omega) r1
          cases r2
          exact ⟨fun c => absurd c (by decide), nmOk.imp (fun q hq => ⟨by omega, hq.2⟩) a ia, ib⟩
      · rw [if_neg k8] at q2
        cases q2
        exact ia
    · rw [pty_1] at h
      rcases pLk_some h with ⟨c, e⟩ | ⟨h0, h⟩
      · cases e
      by_cases k4 : kdT t n i = 4
      · rw [if_pos k4] at h
        exact ih 2 dep i T j (by decide) (fun _ => k4) hi h
      rw [if_neg k4] at h
      by_cases k2 : kdT t n i = 2
      · rw [if_pos k2] at h
        cases h
        trivial
      rw [if_neg k2] at h
      by_cases k1 : kdT t n i = 1
      · rw [if_pos k1] at h
        have := nx i h0 (by omega)
        rcases pBd_some h with ⟨e, r1, r2⟩ | ⟨b, j2, r1, r2⟩
        · cases r2
        · have k3 := (pty_le t n N 3 dep (i + 1) _ (by decide) (fun c => absurd c (by decide)) (by omega) r1).1 b j2 rfl
          have ib := ih 3 dep (i + 1) b j2 (by decide) (fun c => absurd c (by decide)) (by omega) r1
          cases r2
          refine ⟨fun _ => ?_, ib, trivial⟩
          rw [show (4 * i + 1) / 4 = i by omega]
          exact ⟨by omega, h0, k1⟩
      · rw [if_neg k1] at h
        cases h
    · rw [pty_2] at h
      rcases pLk_some h with ⟨c, e⟩ | ⟨h0, h⟩
      · cases e
      have h4 := h2 rfl
      have hi2 := nx i h0 (by omega)
      rcases pLk_some h with ⟨c, e⟩ | ⟨g0, h⟩
      · cases e
      by_cases h40 : 40 ≤ dep
      · rw [if_pos h40] at h
        cases h
      rw [if_neg h40] at h
      rcases pBd_some h with ⟨e, r1, r2⟩ | ⟨a, j1, r1, r2⟩
      · cases r2
      · have ia := ih 0 (dep + 1) (i + 1) a j1 (by decide) (fun c => absurd c (by decide)) (by omega) r1
        rcases pLk_some r2 with ⟨c, e⟩ | ⟨j0, r2⟩
        · cases e
        by_cases k5 : kdT t n j1 = 5
        · rw [if_pos k5] at r2
          cases r2
          exact nmOk.imp (fun q hq => ⟨by omega, hq.2⟩) _ ia
        · rw [if_neg k5] at r2
          cases r2
    · rw [pty_3] at h
      rcases pLk_some h with ⟨c, e⟩ | ⟨h0, h⟩
      · cases e
      by_cases k1 : kdT t n i = 1
      · rw [if_pos k1] at h
        have := nx i h0 (by omega)
        rcases pBd_some h with ⟨e, r1, r2⟩ | ⟨b, j2, r1, r2⟩
        · cases r2
        · have k3 := (pty_le t n N 3 dep (i + 1) _ (by decide) (fun c => absurd c (by decide)) (by omega) r1).1 b j2 rfl
          have ib := ih 3 dep (i + 1) b j2 (by decide) (fun c => absurd c (by decide)) (by omega) r1
          cases r2
          refine ⟨fun c => absurd c (by decide), ⟨fun _ => ?_, trivial, trivial⟩, ib⟩
          rw [show (4 * i + 1) / 4 = i by omega]
          exact ⟨by omega, h0, k1⟩
      rw [if_neg k1] at h
      by_cases k2 : kdT t n i = 2
      · rw [if_pos k2] at h
        have := nx i h0 (by omega)
        rcases pBd_some h with ⟨e, r1, r2⟩ | ⟨b, j2, r1, r2⟩
        · cases r2
        · have ib := ih 3 dep (i + 1) b j2 (by decide) (fun c => absurd c (by decide)) (by omega) r1
          cases r2
          exact ⟨fun c => absurd c (by decide), trivial, ib⟩
      rw [if_neg k2] at h
      by_cases k4 : kdT t n i = 4
      · rw [if_pos k4] at h
        rcases pBd_some h with ⟨e, r1, r2⟩ | ⟨a, j1, r1, r2⟩
        · cases r2
        · have p1 := (pty_le t n N 2 dep i _ (by decide) (fun _ => k4) hi r1).1 a j1 rfl
          have ia := ih 2 dep i a j1 (by decide) (fun _ => k4) hi r1
          rcases pBd_some r2 with ⟨e, r3, r4⟩ | ⟨b, j2, r3, r4⟩
          · cases r4
          · have p2 := (pty_le t n N 3 dep j1 _ (by decide) (fun c => absurd c (by decide)) p1.2 r3).1 b j2 rfl
            have ib := ih 3 dep j1 b j2 (by decide) (fun c => absurd c (by decide)) p1.2 r3
            cases r4
            exact ⟨fun c => absurd c (by decide), nmOk.imp (fun q hq => ⟨by omega, hq.2⟩) a ia, ib⟩
      · rw [if_neg k4] at h
        cases h
        trivial
def enc (c : Int) : Nat := (c + 2000000).toNat
def dec (e : Nat) : Int := (e : Int) - 2000000
theorem dec_enc {c : Int} (h : -2000000 ≤ c) : dec (enc c) = c := by unfold dec enc; omega
/-- no type -/
def cNo : aT := .leaf (0, 0)
def cdF : aT → aT
  | .leaf _ => cNo
  | .branch _ x _ => x
def cdS : aT → aT
  | .leaf _ => cNo
  | .branch _ _ y => y
/-- a read type, coded: a code and at most two parts; of a row: its first two -/
def cdT (t : Nat → Int) (n : Nat) (ns tn : List (List Int)) : aT → aT
  | .leaf q => if q.1 = 0 then .branch (enc (-1000 - vT t n ns q.2)) cNo cNo else cNo
  | .branch m a b => if m = 3 then .branch (enc 2) (cdT t n ns tn a) (cdT t n ns tn b) else if m = 2 then .branch 0 (cdT t n ns tn a) (cdF (cdT t n ns tn b)) else .branch (enc (fd tn (nmW t n (stT t n (m / 4))) tn.length)) (cdF (cdT t n ns tn a)) (cdS (cdT t n ns tn a))
/-- node w holds a coded type -/
def NI (kc kf ks : Nat) (s : aZ) (lo hi : Nat) : aT → Int → Prop
  | .leaf _, w => w = -1
  | .branch e x y, w => (lo ≤ w ∧ w < hi) ∧ zz s kc w.toNat = dec e ∧ NI kc kf ks s lo hi x (zz s kf w.toNat) ∧ NI kc kf ks s lo hi y (zz s ks w.toNat)
theorem NI.keep {kc kf ks : Nat} {s s2 : aZ} {lo hi lo2 hi2 : Nat} (he : ∀ k j, (k = kc ∨ k = kf ∨ k = ks) → lo ≤ j → j < hi → zz s2 k j = zz s k j) (h1 : lo2 ≤ lo) (h2 : hi ≤ hi2) : ∀ (T : aT) (w : Int), NI kc kf ks s lo hi T w → NI kc kf ks s2 lo2 hi2 T w := by
  intro T
  induction T with
  | leaf q => intro w h; exact h
  | branch e x y ihx ihy =>
    intro w h
    obtain ⟨a1, a2, a3, a4⟩ := h
    have z : ∀ k, (k = kc ∨ k = kf ∨ k = ks) → zz s2 k w.toNat = zz s k w.toNat := fun k g => he k w.toNat g (by omega) (by omega)
    refine ⟨⟨by omega, by omega⟩, (z kc (Or.inl rfl)).trans a2, ?_, ?_⟩
    · rw [z kf (Or.inr (Or.inl rfl))]; exact ihx _ a3
    · rw [z ks (Or.inr (Or.inr rfl))]; exact ihy _ a4
/-- a coded type in prefix order -/
def pre : aT → List Int
  | .leaf _ => []
  | .branch e x y => dec e :: (pre x ++ pre y)
section
variable {B : aH} {t : Nat → Int} {n : Nat} {ns tn : List (List Int)} {ta : List Int}
theorem bad_b {m : Nat} {a b : aT} (h : tyBad t n tn ta (.branch m a b) = false) : tyBad t n tn ta a = false ∧ tyBad t n tn ta b = false ∧ (m % 4 = 1 → gdN t n tn ta (m / 4) (argN a) = true) := by
  have h' : ((decide (m % 4 = 1) && !gdN t n tn ta (m / 4) (argN a)) || tyBad t n tn ta a || tyBad t n tn ta b) = false := h
  rw [Bool.or_eq_false_iff, Bool.or_eq_false_iff] at h'
  refine ⟨h'.1.2, h'.2, fun g => ?_⟩
  have h1 := h'.1.1
  rw [decide_eq_true g, Bool.true_and] at h1
  cases e : gdN t n tn ta (m / 4) (argN a) with
  | true => rfl
  | false => rw [e] at h1; exact absurd h1 (by decide)
theorem PI.code (hcap : XCap t n ns) {s : aZ} {lo hi : Nat} : ∀ (T : aT) (b : Bool) (w y : Int), PI t n ns tn ta s lo hi T b w y → tyBad t n tn ta T = false → (b = false → NI 18 19 20 s lo hi (cdT t n ns tn T) w) ∧ (b = true → NI 18 19 20 s lo hi (cdF (cdT t n ns tn T)) w ∧ NI 18 19 20 s lo hi (cdS (cdT t n ns tn T)) y) := by
  intro T
  induction T with
  | leaf q =>
    intro b w y h _
    cases b with
    | false =>
      obtain ⟨a1, a2, a3, a4, a5, a6, a7, a8⟩ := h
      refine ⟨fun _ => ?_, fun c => absurd c (by decide)⟩
      have e : cdT t n ns tn (.leaf q) = .branch (enc (-1000 - vT t n ns q.2)) cNo cNo := if_pos a5
      have v1 := ixn_rng (nsT t n ns q.2) (nmT t n (stT t n q.2))
      have v2 := (hcap q.2).1
      have v3 : -2000000 ≤ -1000 - vT t n ns q.2 := by unfold vT; omega
      rw [e]
      exact ⟨a1, a6.trans (dec_enc v3).symm, a7, a8⟩
    | true =>
      obtain ⟨a1, a2, a3⟩ := h
      have e : cdT t n ns tn (.leaf q) = cNo := if_neg (by omega)
      refine ⟨fun c => absurd c (by decide), fun _ => ?_⟩
      rw [e]
      exact ⟨a2, a3⟩
  | branch m a b iha ihb =>
    intro bb w y h hb
    obtain ⟨b1, b2, b3⟩ := bad_b hb
    cases bb with
    | false =>
      refine ⟨fun _ => ?_, fun c => absurd c (by decide)⟩
      obtain ⟨a1, a2, a3, a4, a5⟩ := h
      rcases a5 with ⟨c1, c2, c3, c4⟩ | ⟨c1, c0, c2, c3, c4⟩ | ⟨c1, c0, c2, -⟩
      · have e : cdT t n ns tn (.branch m a b) = .branch (enc 2) (cdT t n ns tn a) (cdT t n ns tn b) := if_pos c1
        rw [e]
        exact ⟨a1, c2.trans (dec_enc (by decide)).symm, (iha _ _ _ c3 b1).1 rfl, (ihb _ _ _ c4 b2).1 rfl⟩
      · have e : cdT t n ns tn (.branch m a b) = .branch (enc (fd tn (nmW t n (stT t n (m / 4))) tn.length)) (cdF (cdT t n ns tn a)) (cdS (cdT t n ns tn a)) := (if_neg (by omega)).trans (if_neg (by omega))
        have fr := fd_rng tn (nmW t n (stT t n (m / 4)))
        rw [e]
        have r := (iha _ _ _ c4 b1).2 rfl
        exact ⟨a1, c3.trans (dec_enc (by omega)).symm, r.1, r.2⟩
      · exact absurd (b3 c1) (by rw [c2]; decide)
    | true =>
      refine ⟨fun c => absurd c (by decide), fun _ => ?_⟩
      obtain ⟨m2, c1, c2⟩ := h
      have e : cdT t n ns tn (.branch m a b) = .branch 0 (cdT t n ns tn a) (cdF (cdT t n ns tn b)) := (if_neg (by omega)).trans (if_pos m2)
      rw [e]
      exact ⟨(iha _ _ _ c1 b1).1 rfl, ((ihb _ _ _ c2 b2).2 rfl).1⟩
/-- the reference finds a type's name -/
theorem m_tname (hB : a_Can B) {d : Nat} (hd : 1 ≤ d) {s : aZ} {l : aZL} (hT : MTy tn ta s l) {i : Nat} (h0 : ftT t n i = 0) (k1 : kdT t n i = 1) (hl : MTk t n ns i s l) : a_W d 158 0 [.ref 61, iv (zz s 56 4), .ref 74, iv (i : Int), .retAddr 0] [] (mkH B s l) (fun q => q = (.inl (some (iv (fd tn (nmW t n (stT t n i)) tn.length))), mkH B s l)) ∧ fd tn (nmW t n (stT t n i)) tn.length ≠ 2 := by
  obtain ⟨a1, a2, a3, a4, a5, a6, a7, a8⟩ := hT
  have hk := kd_rng h0
  have hs : stT t n i < n := by omega
  obtain ⟨i6, hF⟩ := ft0 h0 hs
  have hk0 : tkK t n (stT t n i) = 1 := by unfold kdT at k1; rw [if_pos hs] at k1; exact k1
  have hz := tkK1 hk0
  obtain ⟨v1, v2, v3, v4⟩ := nmW_ok hs hF hz
  have hln : LN l 74 i (nmW t n (stT t n i)) := hl.2.2.2.2.2 hs hz
  have hne : nmW t n (stT t n i) ≠ [] := fun e => by rw [e] at v4; exact absurd v4 (by decide)
  have hna : nmW t n (stT t n i) ≠ [45, 62] := fun e => by
    have h1 : (nmW t n (stT t n i)).getD 0 0 = t (stT t n i + 0) := by unfold nmW; exact seg_get _ _ _ _ (by rw [nmW, seg_len] at v4; exact v4)
    rw [e] at h1
    have h2 : (45 : Int) = t (stT t n i) := h1
    rw [z31_iff] at hz
    omega
  have hset : (tn.set 2 []).length = tn.length := List.length_set
  have hv : ∀ i, i < (tn.set 2 []).length → VN ((tn.set 2 []).getD i []) ∧ LN l 61 i ((tn.set 2 []).getD i []) := by
    intro i hi
    rw [hset] at hi
    rw [getD_set _ _ (by omega)]
    by_cases e : i = 2
    · rw [if_pos e, e]
      exact ⟨⟨by decide, fun c hc => absurd hc List.not_mem_nil⟩, a7⟩
    · rw [if_neg e]
      exact ⟨(a6 i hi e).1, (a6 i hi e).2.1⟩
  have hfd := ffd_ty (by omega) a4 a5 (nmW t n (stT t n i)) hne hna
  refine ⟨?_, fun e => ?_⟩
  · rw [a1, ← hset]
    refine a_W.imp (m_find61 hB hd s l (tn.set 2 []) (by omega) hv i (by omega) _ v1 hln) ?_
    rintro _ rfl
    rw [hfd, hset]
  · rcases fd_cases tn (nmW t n (stT t n i)) tn.length with ⟨h, -⟩ | ⟨q, hq, h, hq2⟩
    · rw [h] at e; exact absurd e (by decide)
    · have : q = 2 := by omega
      rw [this, a4] at hq2
      exact hna hq2.symm
end
