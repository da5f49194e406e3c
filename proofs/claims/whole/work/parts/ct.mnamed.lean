/-! THE REFERENCE LOOKS NAMES UP -/
theorem unK_num : ∀ v, unK (numK v) = false := by
  intro v
  induction v with
  | zero => rfl
  | succ v ih =>
    show (unK (.leaf (5, 11)) || unK (numK v)) = false
    rw [ih]
    rfl
theorem cnK_un (cn : List (List Int)) (nm : List Int) : unK (cnK cn nm) = true ↔ fd cn nm cn.length < 0 := by
  unfold cnK
  by_cases c : 0 ≤ fd cn nm cn.length
  · rw [if_pos c]
    exact ⟨fun e => (by cases e), fun e => (by omega)⟩
  · rw [if_neg c]
    exact ⟨fun _ => by omega, fun _ => rfl⟩
/-- the signs' constants that are there from the first -/
def CnP (cn : List (List Int)) : Prop := fd cn (opN 15) cn.length = 6 ∧ fd cn (opN 16) cn.length = 5 ∧ fd cn (opN 17) cn.length = 4 ∧ fd cn (opN 18) cn.length = 0
section
variable {t : Nat → Int} {n : Nat} {cn : List (List Int)} {ct : List aT} {B : aH}
/-- what is known of the names among the tokens before j -/
def MNm (t : Nat → Int) (n j : Nat) (l : aZL) : Prop := ∀ i, tkN t n j i → i < 6002 ∧ VN (nmK t n i) ∧ LN l 74 i (nmK t n i) ∧ wdN (nmK t n i) = nmK t n i ∧ nmK t n i ≠ []
/-- the variables of what is looked through, the innermost first -/
def MEs (t : Nat → Int) (n j : Nat) (s : aZ) : List Nat → Nat → Prop
  | [], k => k = 0
  | _ :: _, 0 => False
  | e :: es, k + 1 => (tkN t n j e ∧ zz s 96 k = (e : Nat)) ∧ MEs t n j s es k
theorem MEs.len {j : Nat} {s : aZ} : ∀ (es : List Nat) (k : Nat), MEs t n j s es k → es.length = k := by
  intro es
  induction es with
  | nil => intro k h; exact h.symm
  | cons e es ih =>
    intro k h
    cases k with
    | zero => exact absurd h (by intro h; exact h)
    | succ k => rw [List.length_cons, ih k h.2]
theorem MEs.keep {j : Nat} {s s2 : aZ} : ∀ (es : List Nat) (k : Nat), (∀ i, i < k → zz s2 96 i = zz s 96 i) → MEs t n j s es k → MEs t n j s2 es k := by
  intro es
  induction es with
  | nil => intro k _ h; exact h
  | cons e es ih =>
    intro k he h
    cases k with
    | zero => exact h
    | succ k => exact ⟨⟨h.1.1, (he k (Nat.lt_succ_self _)).trans h.1.2⟩, ih k (fun i hi => he i (by omega)) h.2⟩
theorem m_bat (hB : a_Can B) {d : Nat} (hd : 1 ≤ d) (s : aZ) (l : aZL) {j i : Nat} (hN : MNm t n j l) (hi : tkN t n j i) : ∀ (es : List Nat) (k : Nat), k ≤ 600 → MEs t n j s es k → a_W d 185 7 [.ref 56, iv (i : Int), iv ((k : Int) - 1)] [] (mkH B s l) (fun q => q = (.inl (some (iv (if ixE (es.map (nmK t n)) (nmK t n i) < es.length then (k : Int) - 1 - (ixE (es.map (nmK t n)) (nmK t n i) : Int) else -1))), mkH B s l)) := by
  obtain ⟨i1, i2, i3, -, -⟩ := hN i hi
  intro es
  induction es with
  | nil =>
    intro k hk h
    have h : k = 0 := h
    subst h
    exact w185_7 hB (by omega) _ _ s l ⟨by decide, fun _ => w185_38 hB _ _ s l rfl, fun c => absurd c (by decide)⟩
  | cons e es ih =>
    intro k hk h
    cases k with
    | zero => exact absurd h (by intro h; exact h)
    | succ k =>
      obtain ⟨⟨g1, g2⟩, g3⟩ := h
      obtain ⟨e1, e2, e3, -, -⟩ := hN e g1
      rw [show ((k + 1 : Nat) : Int) - 1 = (k : Int) by omega]
      refine w185_7 hB (by omega) _ _ s l ⟨⟨by omega, by omega⟩, fun c => absurd c (by omega), fun _ => ⟨⟨by omega, by omega⟩, ?_⟩⟩
      rw [natc, g2]
      refine a_W.imp (m_alike74 hB s l e i e1 i1 (nmK t n e) (nmK t n i) e2 i2 e3 i3) ?_
      rintro _ rfl
      by_cases q : nmK t n e = nmK t n i
      · rw [if_pos q]
        refine ⟨_, s, l, rfl, by decide, fun _ => w185_38 hB _ _ s l ?_, fun c => absurd c (by decide)⟩
        have ei : ixE ((e :: es).map (nmK t n)) (nmK t n i) = 0 := by
          show (if nmK t n e = nmK t n i then 0 else _) = _
          rw [if_pos q]
        rw [ei, if_pos (by rw [List.length_cons]; omega)]
        congr 4
      · rw [if_neg q]
        refine ⟨_, s, l, rfl, by decide, fun c => absurd rfl c, fun _ => ?_⟩
        have ei : ixE ((e :: es).map (nmK t n)) (nmK t n i) = ixE (es.map (nmK t n)) (nmK t n i) + 1 := by
          show (if nmK t n e = nmK t n i then 0 else _) = _
          rw [if_neg q]
        rw [show (k : Int) + (-1) = (k : Int) - 1 by omega]
        refine a_W.imp (ih k (by omega) g3) ?_
        rintro _ rfl
        rw [ei, List.length_cons]
        by_cases q2 : ixE (es.map (nmK t n)) (nmK t n i) < es.length
        · rw [if_pos q2, if_pos (by omega)]
          congr 4
          omega
        · rw [if_neg q2, if_neg (by omega)]
theorem m_cof (hB : a_Can B) {d fx : Nat} (hd : 1 ≤ d) (s : aZ) (l : aZL) (hM : MCo cn ct fx s l) {j i : Nat} (hN : MNm t n j l) (hi : tkN t n j i) : a_W d 158 0 [.ref 58, iv (zz s 56 3), .ref 74, iv (i : Int), .retAddr 0] [] (mkH B s l) (fun q => q = (.inl (some (iv (fd cn (nmK t n i) cn.length))), mkH B s l)) := by
  obtain ⟨i1, i2, i3, i4, i5⟩ := hN i hi
  obtain ⟨a1, a2, a3, a4, a5, a6, a7, -⟩ := hM
  have hml : (cn.map wdN).length = cn.length := List.length_map _
  have hvv : ∀ i, i < (cn.map wdN).length → VN ((cn.map wdN).getD i []) ∧ LN l 58 i ((cn.map wdN).getD i []) := fun i hi => by
    rw [map_wd]
    exact a7 i (by omega)
  rw [a1, ← hml]
  refine a_W.imp (m_find58 hB hd s l (cn.map wdN) (by omega) hvv i i1 _ i2 i3) ?_
  rintro _ rfl
  rw [ffd_co a6 (nmK t n i) i5 i4, hml]
/-- what looking names up leaves -/
def MFn (k : Nat) (s s2 : aZ) : Prop := (∀ q, q ≠ 56 → q ≠ 96 → s2 q = s q) ∧ (∀ j, zz s2 56 j = zz s 56 j) ∧ ∀ i, i < k → zz s2 96 i = zz s 96 i
theorem MFn.rf (k : Nat) (s : aZ) : MFn k s s := ⟨fun _ _ _ => rfl, fun _ => rfl, fun _ _ => rfl⟩
theorem MFn.tr {k : Nat} {s1 s2 s3 : aZ} (a : MFn k s1 s2) (b : MFn k s2 s3) : MFn k s1 s3 := ⟨fun q h1 h2 => (b.1 q h1 h2).trans (a.1 q h1 h2), fun j => (b.2.1 j).trans (a.2.1 j), fun i hi => (b.2.2 i hi).trans (a.2.2 i hi)⟩
theorem MFn.ph {k : Nat} {s s2 : aZ} (a : MFn k s s2) {v : Nat → Int} {W Q : Nat} {T : aT} {p : Int} (h : PH s v W Q T p) : PH s2 v W Q T p := PH.keep (fun k j h1 h2 _ => zz_of (a.1 k (by omega) (by omega)) j) (fun k h1 h2 j _ => zz_of (a.1 k (by omega) (by omega)) j) (Nat.le_refl _) (Nat.le_refl _) T p h
theorem MFn.co {k fx : Nat} {s s2 : aZ} {l : aZL} (a : MFn k s s2) (h : MCo cn ct fx s l) : MCo cn ct fx s2 l := h.fr (a.2.1 3) (a.2.1 17) (a.1 59 (by decide) (by decide)) (a.1 60 (by decide) (by decide)) (fun k h1 h2 j _ => zz_of (a.1 k (by omega) (by omega)) j) rfl
theorem m_named (hB : a_Can B) (hcn : CnO cn) (hcp : CnP cn) (l : aZL) {fx j : Nat} (hN : MNm t n j l) {v : Nat → Int} {W Q : Nat} (hQ : Q ≤ 30100) : ∀ (T : aT), tmOk t n j T → ∀ (d : Nat) (es : List Nat) (k : Nat) (p : Int) (s : aZ), aHt T + 2 ≤ d → k + aHt T ≤ 600 → PH s v W Q T p → MCo cn ct fx s l → MEs t n j s es k → zz s 56 59 = (k : Nat) → a_W d 184 0 [.ref 56, iv p, .retAddr 0] [] (mkH B s l) (fun q => ∃ s2, q = (.inl (some (iv (if unK (rsv t n cn T (es.map (nmK t n))) = true then 0 else 1))), mkH B s2 l) ∧ MFn k s s2) := by
  intro T
  induction T with
  | leaf q =>
    intro hok d es k p s hd hk hp hM hE h59
    have hel := MEs.len es k hE
    obtain ⟨h1, -, -, h4⟩ := hp
    have hd : 1 + 2 ≤ d := hd
    have hk : k + 1 ≤ 600 := hk
    refine w184_0 hB (by omega) _ s l ⟨⟨by omega, by omega⟩, ?_⟩
    rcases h4 with ⟨q0, e82, e83⟩ | ⟨q0, e82, e83⟩ | ⟨q0, e82, e83⟩
    · rw [e82, e83]
      have hi : tkN t n j q.2 := by
        rcases hok with ⟨-, h⟩ | ⟨h, -⟩ | ⟨h, -⟩
        · exact h
        · omega
        · omega
      have eK : rsv t n cn (.leaf q) (es.map (nmK t n)) = if ixE (es.map (nmK t n)) (nmK t n q.2) < (es.map (nmK t n)).length then .leaf (4, ixE (es.map (nmK t n)) (nmK t n q.2)) else cnK cn (nmK t n q.2) := if_pos q0
      rw [List.length_map] at eK
      refine ⟨fun _ => w185_0 hB _ s l ?_, fun c => absurd c (by decide), fun c => absurd c (by decide), fun c => absurd c (by decide), fun c => absurd c (by decide), fun c => absurd rfl c.1⟩
      rw [h59]
      refine a_W.imp (m_bat hB (by omega) s l hN hi es k (by omega) hE) ?_
      rintro _ rfl
      by_cases c : ixE (es.map (nmK t n)) (nmK t n q.2) < es.length
      · rw [if_pos c] at eK ⊢
        refine ⟨_, s, l, rfl, ⟨by omega, by omega⟩, fun _ => w184_63 hB _ s l ⟨s, ?_, MFn.rf k s⟩, fun e => absurd e (by omega)⟩
        rw [eK]
        rfl
      · rw [if_neg c] at eK ⊢
        refine ⟨_, s, l, rfl, by decide, fun e => absurd rfl e, fun _ => w186_0 hB (by omega) _ s l ⟨⟨by omega, by omega⟩, fun e => absurd e82 e, fun _ => ?_⟩⟩
        rw [e83]
        refine a_W.imp (m_cof hB (by omega) s l hM hN hi) ?_
        rintro _ rfl
        have fr := fd_rng cn (nmK t n q.2)
        have hl := hM.2.1
        refine ⟨_, s, l, rfl, _, s, l, rfl, ⟨by omega, by omega⟩, fun e => ⟨s, ?_, MFn.rf k s⟩, fun e => w184_63 hB _ s l ⟨s, ?_, MFn.rf k s⟩⟩
        · rw [eK, if_pos ((cnK_un cn _).mpr (by omega))]
        · rw [eK, if_neg (fun c => by have := (cnK_un cn _).mp c; omega)]
    · have eK : rsv t n cn (.leaf q) (es.map (nmK t n)) = sgR cn q.2 := (if_neg (by omega)).trans (if_pos q0)
      have hr : 10 ≤ q.2 ∧ q.2 ≤ 22 := by
        rcases hok with ⟨h, -⟩ | ⟨-, h⟩ | ⟨h, -⟩
        · omega
        · exact h
        · omega
      have key : ∃ x : Int, inR x ∧ (x = -1 ↔ unK (sgR cn q.2) = true) ∧ a_W (d - 1) 186 0 [.ref 56, iv p] [] (mkH B s l) (fun r => r = (.inl (some (iv x)), mkH B s l)) := by
        have fr := fd_rng cn (opN (q.2 : Int))
        have hl := hM.2.1
        obtain ⟨-, -, -, -, -, -, -, a8, ⟨b20, b21, b22, b23, b24⟩, -⟩ := hM
        have cnU : ∀ k : Nat, k ≠ 14 → (fd cn (opN (k : Int)) cn.length = -1 ↔ unK (sgR cn k) = true) := fun k hk => by
          have fr := fd_rng cn (opN (k : Int))
          unfold sgR cnK
          rw [if_neg hk]
          by_cases c : 0 ≤ fd cn (opN (k : Int)) cn.length
          · rw [if_pos c]; exact ⟨fun e => by omega, fun e => by cases e⟩
          · rw [if_neg c]; exact ⟨fun _ => rfl, fun _ => by omega⟩
        rcases e83 with ⟨k13, e83⟩ | ⟨k14, e83, e84⟩
        · refine ⟨sgC q.2, ?_, ?_, w186_0 hB (by omega) _ s l ⟨⟨by omega, by omega⟩, fun _ => ⟨fun _ => by rw [e83], fun c => absurd c ?_⟩, fun c => absurd c (by rw [e82]; decide)⟩⟩
          · unfold sgC; constructor <;> omega
          · rw [← cnU q.2 (by omega)]
            obtain ⟨-, -, c10, c11, c12, c13⟩ := hcn
            rcases (show q.2 = 10 ∨ q.2 = 11 ∨ q.2 = 12 ∨ q.2 = 13 by omega) with e | e | e | e
            · rw [e, show fd cn (opN ((10 : Nat) : Int)) cn.length = 7 from c10]; decide
            · rw [e, show fd cn (opN ((11 : Nat) : Int)) cn.length = 8 from c11]; decide
            · rw [e, show fd cn (opN ((12 : Nat) : Int)) cn.length = 9 from c12]; decide
            · rw [e, show fd cn (opN ((13 : Nat) : Int)) cn.length = 3 from c13]; decide
          · rw [e83]; unfold sgC; omega
        · have ek : kM (q.2 : Int) = ((q.2 + 6 : Nat) : Int) := by rw [kM_op (by omega)]; omega
          rw [ek] at e84
          refine ⟨zz s 60 (q.2 + 6), inR_zz _ _ _, ?_, w186_0 hB (by omega) _ s l ⟨⟨by omega, by omega⟩, fun _ => ⟨fun c => absurd e83 c, fun _ => ?_⟩, fun c => absurd c (by rw [e82]; decide)⟩⟩
          · obtain ⟨p15, p16, p17, p18⟩ := hcp
            rcases (show q.2 = 14 ∨ q.2 = 15 ∨ q.2 = 16 ∨ q.2 = 17 ∨ q.2 = 18 ∨ 19 ≤ q.2 by omega) with e | e | e | e | e | e
            · rw [e, show zz s 60 (14 + 6) = 0 from b20]
              exact ⟨fun c => absurd c (by decide), fun c => by cases c⟩
            · rw [e, show zz s 60 (15 + 6) = 6 from b21, ← cnU 15 (by decide), show fd cn (opN ((15 : Nat) : Int)) cn.length = 6 from p15]
            · rw [e, show zz s 60 (16 + 6) = 5 from b22, ← cnU 16 (by decide), show fd cn (opN ((16 : Nat) : Int)) cn.length = 5 from p16]
            · rw [e, show zz s 60 (17 + 6) = 4 from b23, ← cnU 17 (by decide), show fd cn (opN ((17 : Nat) : Int)) cn.length = 4 from p17]
            · rw [e, show zz s 60 (18 + 6) = 0 from b24, ← cnU 18 (by decide), show fd cn (opN ((18 : Nat) : Int)) cn.length = 0 from p18]
            · rw [a8 q.2 e hr.2, ← cnU q.2 (by omega)]
          · rw [e84, natc]
            exact ⟨⟨by omega, by omega⟩, rfl⟩
      obtain ⟨x, rx, hx, hw⟩ := key
      rw [e82]
      refine ⟨fun c => absurd c (by decide), fun _ => a_W.imp hw ?_, fun c => absurd c (by decide), fun c => absurd c (by decide), fun c => absurd c (by decide), fun c => absurd rfl c.2.1⟩
      rintro _ rfl
      refine ⟨_, s, l, rfl, rx, fun e => ⟨s, ?_, MFn.rf k s⟩, fun e => ⟨s, ?_, MFn.rf k s⟩⟩
      · rw [eK, if_pos (hx.mp e)]
      · rw [eK, if_neg (fun c => e (hx.mpr c))]
    · rw [e82]
      have eK : rsv t n cn (.leaf q) (es.map (nmK t n)) = numK q.2 := (if_neg (by omega)).trans (if_neg (by omega))
      refine ⟨fun c => absurd c (by decide), fun c => absurd c (by decide), fun _ => ⟨s, ?_, MFn.rf k s⟩, fun c => absurd c (by decide), fun c => absurd c (by decide), fun c => absurd rfl c.2.2.1⟩
      rw [eK, unK_num]
      rfl
  | branch m a b iha ihb =>
    intro hok d es k p s hd hk hp hM hE h59
    obtain ⟨h1, -, -, h4⟩ := hp
    have v01 : ∀ b : Bool, inR (if b = true then (0 : Int) else 1) ∧ ((if b = true then (0 : Int) else 1) = 0 ∨ (if b = true then (0 : Int) else 1) = 1) := fun b => by cases b <;> decide
    refine w184_0 hB (by omega) _ s l ⟨⟨by omega, by omega⟩, ?_⟩
    rcases h4 with ⟨m0, e82, ga, gb⟩ | ⟨m1, e82, e83, gb, -⟩ | ⟨m2, e82, ga, -⟩
    · subst m0
      have ho : tmOk t n j a ∧ tmOk t n j b := by
        rcases hok with ⟨-, x, y⟩ | ⟨c, -⟩ | ⟨c, -⟩
        · exact ⟨x, y⟩
        · exact absurd c (by decide)
        · exact absurd c (by decide)
      have hh : aHt (.branch 0 a b) = 1 + max (aHt a) (aHt b) := rfl
      rw [hh] at hd hk
      have eU : unK (rsv t n cn (.branch 0 a b) (es.map (nmK t n))) = (unK (rsv t n cn a (es.map (nmK t n))) || unK (rsv t n cn b (es.map (nmK t n)))) := rfl
      rw [eU]
      rw [e82]
      refine ⟨fun c => absurd c (by decide), fun c => absurd c (by decide), fun c => absurd c (by decide), fun _ => a_W.imp (iha ho.1 (d - 1) es k _ s (by omega) (by omega) ga hM hE h59) ?_, fun c => absurd c (by decide), fun c => absurd rfl c.2.2.2.1⟩
      rintro _ ⟨s2, rfl, f2⟩
      refine ⟨_, s2, l, rfl, (v01 _).1, ?_⟩
      cases hu : unK (rsv t n cn a (es.map (nmK t n))) with
      | true => exact ⟨fun _ => w184_116 hB _ s2 l ⟨s2, rfl, f2⟩, fun c => absurd rfl c⟩
      | false =>
        refine ⟨fun c => absurd c (by decide), fun _ => ?_⟩
        rw [zz_of (f2.1 84 (by decide) (by decide))]
        refine a_W.imp (ihb ho.2 (d - 1) es k _ s2 (by omega) (by omega) (f2.ph gb) (f2.co hM) (MEs.keep es k f2.2.2 hE) ((f2.2.1 59).trans h59)) ?_
        rintro _ ⟨s3, rfl, f3⟩
        refine ⟨_, s3, l, rfl, (v01 _).1, ?_⟩
        cases hu2 : unK (rsv t n cn b (es.map (nmK t n))) with
        | true => exact ⟨fun _ => w184_116 hB _ s3 l ⟨s3, rfl, f2.tr f3⟩, fun c => absurd rfl c⟩
        | false => exact ⟨fun c => absurd c (by decide), fun _ => ⟨s3, rfl, f2.tr f3⟩⟩
    · have n0 : ¬ m = 0 := by omega
      have n2 : ¬ m = 2 := by omega
      have ho : tkN t n j (m / 4) ∧ tmOk t n j b := by
        rcases hok with ⟨c, -⟩ | ⟨-, x, -, y⟩ | ⟨c, -⟩
        · exact absurd c n0
        · exact ⟨x, y⟩
        · exact absurd c n2
      have hh : aHt (.branch m a b) = 1 + aHt b := (if_neg n0).trans (if_neg n2)
      rw [hh] at hd hk
      have eU : unK (rsv t n cn (.branch m a b) (es.map (nmK t n))) = unK (rsv t n cn b (((m / 4) :: es).map (nmK t n))) := by
        have : rsv t n cn (.branch m a b) (es.map (nmK t n)) = .branch 1 a (rsv t n cn b (nmK t n (m / 4) :: es.map (nmK t n))) := (if_neg n0).trans (if_neg n2)
        rw [this]
        rfl
      rw [eU, e82]
      have hi6 := (hN _ ho.1).1
      refine ⟨fun c => absurd c (by decide), fun c => absurd c (by decide), fun c => absurd c (by decide), fun c => absurd c (by decide), fun _ => ⟨⟨by omega, by omega⟩, ?_⟩, fun c => absurd rfl c.2.2.2.2⟩
      rw [h59, natc, e83, show (k : Int) + 1 = ((k + 1 : Nat) : Int) by omega]
      have z : ∀ q i, q ≠ 56 → q ≠ 96 → zz (zu (zu s 96 k ((m / 4 : Nat) : Int)) 56 59 ((k + 1 : Nat) : Int)) q i = zz s q i := fun q i a b => by rw [zz_ne _ _ _ _ _ _ (by omega), zz_ne _ _ _ _ _ _ (by omega)]
      have zk : ∀ q, q ≠ 56 → q ≠ 96 → (zu (zu s 96 k ((m / 4 : Nat) : Int)) 56 59 ((k + 1 : Nat) : Int)) q = s q := fun q a b => by rw [zu_ne _ _ _ _ _ a, zu_ne _ _ _ _ _ b]
      have z56 : ∀ i, i ≠ 59 → zz (zu (zu s 96 k ((m / 4 : Nat) : Int)) 56 59 ((k + 1 : Nat) : Int)) 56 i = zz s 56 i := fun i hi => by rw [zz_ne _ _ _ _ _ _ (by omega), zz_ne _ _ _ _ _ _ (by omega)]
      have z59 : zz (zu (zu s 96 k ((m / 4 : Nat) : Int)) 56 59 ((k + 1 : Nat) : Int)) 56 59 = ((k + 1 : Nat) : Int) := zz_same _ _ _ ⟨by omega, by omega⟩
      have z96k : zz (zu (zu s 96 k ((m / 4 : Nat) : Int)) 56 59 ((k + 1 : Nat) : Int)) 96 k = ((m / 4 : Nat) : Int) := by rw [zz_ne _ _ _ _ _ _ (by omega)]; exact zz_same _ _ _ ⟨by omega, by omega⟩
      have z96n : ∀ i, i < k → zz (zu (zu s 96 k ((m / 4 : Nat) : Int)) 56 59 ((k + 1 : Nat) : Int)) 96 i = zz s 96 i := fun i hi => by rw [zz_ne _ _ _ _ _ _ (by omega), zz_ne _ _ _ _ _ _ (by omega)]
      generalize (zu (zu s 96 k ((m / 4 : Nat) : Int)) 56 59 ((k + 1 : Nat) : Int)) = s5 at *
      have hp5 : PH s5 v W Q b (zz s 84 p.toNat) := PH.keep (fun q i h1 h2 _ => z q i (by omega) (by omega)) (fun q h1 h2 i _ => z q i (by omega) (by omega)) (Nat.le_refl _) (Nat.le_refl _) b _ gb
      have hM5 : MCo cn ct fx s5 l := hM.fr (z56 3 (by decide)) (z56 17 (by decide)) (zk 59 (by decide) (by decide)) (zk 60 (by decide) (by decide)) (fun q h1 h2 i _ => z q i (by omega) (by omega)) rfl
      refine a_W.imp (ihb ho.2 (d - 1) ((m / 4) :: es) (k + 1) _ s5 (by omega) (by omega) hp5 hM5 ⟨⟨ho.1, z96k⟩, MEs.keep es k z96n hE⟩ z59) ?_
      rintro _ ⟨s6, rfl, f6⟩
      refine ⟨_, s6, l, rfl, (v01 _).2, _, rfl, fun q a b => ?_, fun i => ?_, fun i hi => ?_⟩
      · rw [zu_ne _ _ _ _ _ a, f6.1 q a b, zk q a b]
      · by_cases e : i = 59
        · subst e
          rw [f6.2.1 59, z59, zz_same _ _ _ ⟨by omega, by omega⟩, h59]
          omega
        · rw [zz_ne _ _ _ _ _ _ (by omega), f6.2.1 i, z56 i e]
      · rw [zz_ne _ _ _ _ _ _ (by omega), f6.2.2 i (by omega), z96n i hi]
    · subst m2
      have ho : tmOk t n j a := by
        rcases hok with ⟨c, -⟩ | ⟨c, -⟩ | ⟨-, x, -⟩
        · exact absurd c (by decide)
        · exact absurd c (by decide)
        · exact x
      have hh : aHt (.branch 2 a b) = 1 + aHt a := rfl
      rw [hh] at hd hk
      have eU : unK (rsv t n cn (.branch 2 a b) (es.map (nmK t n))) = unK (rsv t n cn a (es.map (nmK t n))) := rfl
      rw [eU, e82]
      refine ⟨fun c => absurd c (by decide), fun c => absurd c (by decide), fun c => absurd c (by decide), fun c => absurd c (by decide), fun c => absurd c (by decide), fun _ => a_W.imp (iha ho (d - 1) es k _ s (by omega) (by omega) ga hM hE h59) ?_⟩
      rintro _ ⟨s2, rfl, f2⟩
      exact ⟨_, s2, l, rfl, (v01 _).2, s2, rfl, f2⟩
end
