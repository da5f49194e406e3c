/-! printed by wip/am/mk53.py: tables of names -/
theorem and255 (x : Int) : 0 ≤ (Int32.ofInt x &&& Int32.ofInt 255).toInt ∧ (Int32.ofInt x &&& Int32.ofInt 255).toInt < 256 := by
  have h : ∀ b : BitVec 32, (b &&& 255#32).toInt = ((b &&& 255#32).toNat : Int) ∧ (b &&& 255#32).toNat ≤ 255 := by
    intro b
    have h1 : (b &&& 255#32).toNat ≤ 255 := by
      rw [BitVec.toNat_and]
      exact Nat.and_le_right
    refine ⟨?_, h1⟩
    rw [BitVec.toInt_eq_toNat_cond, if_pos (by omega)]
  have h2 := h (Int32.ofInt x).toBitVec
  have e : (Int32.ofInt x &&& Int32.ofInt 255).toInt = ((Int32.ofInt x).toBitVec &&& 255#32).toInt := rfl
  rw [e, h2.1]
  omega
def bkF (l : List Int) (a : Int) : Int := l.foldl (fun a c => a * 31 + c) a
def bkL (l : List Int) : Int := (Int32.ofInt (bkF l 0) &&& Int32.ofInt 255).toInt
theorem bkL_rng (l : List Int) : 0 ≤ bkL l ∧ bkL l < 256 := and255 _
/-- what lies there is this -/
def Sg (f : Nat → Int) (a : Nat) (l : List Int) : Prop := ∀ j, j < l.length → f (a + j) = l.getD j 0
theorem Sg.tl {f : Nat → Int} {a : Nat} {c : Int} {l : List Int} (h : Sg f a (c :: l)) : f a = c ∧ Sg f (a + 1) l := by
  refine ⟨h 0 (Nat.succ_pos _), fun j hj => ?_⟩
  have := h (j + 1) (Nat.succ_lt_succ hj)
  rw [show a + 1 + j = a + (j + 1) by omega]
  exact this
def lb (ns : List (List Int)) (b : Int) : Nat → Int
  | 0 => -1
  | m + 1 => if bkL (ns.getD m []) = b then (m : Int) else lb ns b m
def fd (ns : List (List Int)) (nm : List Int) : Nat → Int
  | 0 => -1
  | m + 1 => if ns.getD m [] = nm then (m : Int) else fd ns nm m
theorem lb_cases (ns : List (List Int)) (b : Int) : ∀ m, (lb ns b m = -1 ∧ ∀ nm, bkL nm = b → fd ns nm m = -1) ∨ (∃ i, i < m ∧ lb ns b m = (i : Int) ∧ bkL (ns.getD i []) = b ∧ ∀ nm, bkL nm = b → fd ns nm m = fd ns nm (i + 1)) := by
  intro m
  induction m with
  | zero => exact Or.inl ⟨rfl, fun _ _ => rfl⟩
  | succ m ih =>
    unfold lb
    by_cases h : bkL (ns.getD m []) = b
    · rw [if_pos h]
      exact Or.inr ⟨m, Nat.lt_succ_self _, rfl, h, fun _ _ => rfl⟩
    · rw [if_neg h]
      have hf : ∀ nm, bkL nm = b → fd ns nm (m + 1) = fd ns nm m := by
        intro nm hb
        show (if ns.getD m [] = nm then (m : Int) else fd ns nm m) = _
        rw [if_neg (fun e => h (by rw [e]; exact hb))]
      rcases ih with ⟨h1, h2⟩ | ⟨i, h1, h2, h3, h4⟩
      · exact Or.inl ⟨h1, fun nm hb => (hf nm hb).trans (h2 nm hb)⟩
      · exact Or.inr ⟨i, Nat.lt_succ_of_lt h1, h2, h3, fun nm hb => (hf nm hb).trans (h4 nm hb)⟩
theorem getD_app {α : Type} (l : List α) (x e : α) (m : Nat) (h : m < l.length) : (l ++ [x]).getD m e = l.getD m e := by
  rw [List.getD_eq_getElem?_getD, List.getD_eq_getElem?_getD, List.getElem?_append_left h]
theorem getD_last {α : Type} (l : List α) (x e : α) : (l ++ [x]).getD l.length e = x := by
  rw [List.getD_eq_getElem?_getD, List.getElem?_append_right (Nat.le_refl _), Nat.sub_self]
  rfl
theorem lb_app (ns : List (List Int)) (nm : List Int) (b : Int) : ∀ m, m ≤ ns.length → lb (ns ++ [nm]) b m = lb ns b m := by
  intro m
  induction m with
  | zero => intro _; rfl
  | succ m ih =>
    intro h
    unfold lb
    rw [getD_app _ _ _ _ h, ih (Nat.le_of_succ_le h)]
theorem fd_app (ns : List (List Int)) (nm x : List Int) : ∀ m, m ≤ ns.length → fd (ns ++ [nm]) x m = fd ns x m := by
  intro m
  induction m with
  | zero => intro _; rfl
  | succ m ih =>
    intro h
    unfold fd
    rw [getD_app _ _ _ _ h, ih (Nat.le_of_succ_le h)]
theorem fd_cases (ns : List (List Int)) (nm : List Int) : ∀ m, (fd ns nm m = -1 ∧ ∀ i, i < m → ns.getD i [] ≠ nm) ∨ (∃ i, i < m ∧ fd ns nm m = (i : Int) ∧ ns.getD i [] = nm) := by
  intro m
  induction m with
  | zero => exact Or.inl ⟨rfl, fun _ h => absurd h (Nat.not_lt_zero _)⟩
  | succ m ih =>
    unfold fd
    by_cases h : ns.getD m [] = nm
    · rw [if_pos h]
      exact Or.inr ⟨m, Nat.lt_succ_self _, rfl, h⟩
    · rw [if_neg h]
      rcases ih with ⟨h1, h2⟩ | ⟨i, h1, h2, h3⟩
      · refine Or.inl ⟨h1, fun i hi => ?_⟩
        by_cases e : i = m
        · rw [e]; exact h
        · exact h2 i (by omega)
      · exact Or.inr ⟨i, Nat.lt_succ_of_lt h1, h2, h3⟩
def NTs (P PL PS : Nat) (ns : List (List Int)) (s : aZ) : Prop := zz s P 4 = ns.length ∧ zz s PS 0 = 0 ∧ ∀ i, i < ns.length → zz s PS (i + 1) = zz s PS i + (ns.getD i []).length ∧ 0 ≤ zz s PS i ∧ ∀ j, j < (ns.getD i []).length → zz s PL ((zz s PS i).toNat + j) = (ns.getD i []).getD j 0
def NT (P PL PS PN PF NL NN : Nat) (ns : List (List Int)) (s : aZ) : Prop := NTs P PL PS ns s ∧ (∀ b : Nat, b < 256 → zz s PF b = lb ns b ns.length) ∧ (∀ i, i < ns.length → zz s PN i = lb ns (bkL (ns.getD i [])) i) ∧ ns.length ≤ NN ∧ zz s PS ns.length ≤ NL
theorem NTs.mono {P PL PS : Nat} {ns : List (List Int)} {s : aZ} (h : NTs P PL PS ns s) : ∀ i, i ≤ ns.length → 0 ≤ zz s PS i ∧ ∀ k, k ≤ i → zz s PS k ≤ zz s PS i := by
  intro i
  induction i with
  | zero => intro _; exact ⟨by have := h.2.1; omega, fun k hk => by rw [Nat.le_zero.mp hk]; omega⟩
  | succ i ih =>
    intro hi
    have h1 := ih (by omega)
    have h2 := (h.2.2 i (by omega)).1
    refine ⟨by omega, fun k hk => ?_⟩
    by_cases e : k = i + 1
    · rw [e]; omega
    · have := h1.2 k (by omega)
      omega
theorem NT.fr {P PL PS PN PF NL NN : Nat} {ns : List (List Int)} {s s2 : aZ} (h : NT P PL PS PN PF NL NN ns s) (h1 : zz s2 P 4 = zz s P 4) (h2 : s2 PL = s PL) (h3 : s2 PS = s PS) (h4 : s2 PN = s PN) (h5 : s2 PF = s PF) : NT P PL PS PN PF NL NN ns s2 := by
  obtain ⟨⟨a1, a2, a3⟩, a4, a5, a6, a7⟩ := h
  refine ⟨⟨h1.trans a1, (zz_of h3 _).trans a2, fun i hi => ?_⟩, fun b hb => (zz_of h5 _).trans (a4 b hb), fun i hi => (zz_of h4 _).trans (a5 i hi), a6, by rw [zz_of h3]; exact a7⟩
  obtain ⟨b1, b2, b3⟩ := a3 i hi
  rw [zz_of h3, zz_of h3]
  exact ⟨b1, b2, fun j hj => (zz_of h2 _).trans (b3 j hj)⟩
theorem w6_0 {d : Nat} {B : aH} {Q : aR → Prop} (hB : a_Can B) (x1 x2 : Int) (s : Nat → Nat → Int32) (l : Nat → Nat → Int64) (w : a_W d 6 5 [.ref 2, iv x1, iv x2, iv 0, iv x1] [] (mkH B s l) Q) : a_W d 6 0 [.ref 2, iv x1, iv x2, .retAddr 0, .retAddr 0] [] (mkH B s l) Q := by
  refine w_ic (p := 1) (q6 0) rfl ?_
  refine w_isn (p := 2) (ls' := [.ref 2, iv x1, iv x2, iv 0, .retAddr 0]) (q6 1) rfl (Nat.le_of_ble_eq_true rfl) rfl ?_
  refine w_iln (p := 3) (q6 2) rfl rfl ?_
  refine w_is (p := 5) (ls' := [.ref 2, iv x1, iv x2, iv 0, iv x1]) (q6 3) rfl (Nat.le_of_ble_eq_true rfl) rfl ?_
  exact w
theorem w6_5 {d : Nat} {B : aH} {Q : aR → Prop} (hB : a_Can B) (x1 x2 x3 x4 : Int) (s : Nat → Nat → Int32) (l : Nat → Nat → Int64) (w : (inR x4 ∧ inR x2 ∧ ((x2 ≤ x4 → Q (.inl (some (iv ((Int32.ofInt x3 &&& Int32.ofInt 255).toInt))), (mkH B s l))) ∧ (x4 < x2 → ((0 ≤ x4 ∧ x4 < 8000) ∧ a_W d 6 5 [.ref 2, iv x1, iv x2, iv ((x3 * 31) + (zz s 2 x4.toNat)), iv (x4 + 1)] [] (mkH B s l) Q))))) : a_W d 6 5 [.ref 2, iv x1, iv x2, iv x3, iv x4] [] (mkH B s l) Q := by
  refine w_il (p := 7) (q6 5) rfl rfl ?_
  refine w_iln (p := 8) (q6 7) rfl rfl ?_
  obtain ⟨h1, w⟩ := w
  obtain ⟨h2, w⟩ := w
  by_cases c3 : x2 ≤ x4
  · replace w := w.1 c3
    refine w_i2t (q6 8) h1 h2 c3 ?_
    refine w_iln (p := 28) (q6 27) rfl rfl ?_
    refine w_sp (p := 31) (q6 28) rfl (by decide) ?_
    refine w_and (p := 32) (q6 31) rfl ?_
    exact w_ret (q6 32) rfl w
  · replace w := w.2 (Int.not_le.mp c3)
    refine w_i2f (p := 11) (q6 8) rfl h1 h2 c3 ?_
    refine w_iln (p := 12) (q6 11) rfl rfl ?_
    refine w_bp (p := 14) (q6 12) rfl (by decide) ?_
    refine w_mulz (p := 15) (q6 14) rfl ?_
    refine w_aln (p := 16) (q6 15) rfl rfl ?_
    refine w_il (p := 18) (q6 16) rfl rfl ?_
    obtain ⟨o4, w⟩ := w
    refine w_ba (p := 19) (v := (zz s 2 x4.toNat)) (q6 18) rfl (r2 hB) (by decide) o4 (iv_zz s 2 x4.toNat) ?_
    refine w_add (p := 20) (q6 19) rfl ?_
    refine w_isn (p := 21) (ls' := [.ref 2, iv x1, iv x2, iv ((x3 * 31) + (zz s 2 x4.toNat)), iv x4]) (q6 20) rfl (Nat.le_of_ble_eq_true rfl) rfl ?_
    refine w_inc (p := 24) (ls' := [.ref 2, iv x1, iv x2, iv ((x3 * 31) + (zz s 2 x4.toNat)), iv (x4 + 1)]) (q6 21) rfl rfl rfl ?_
    refine w_goto (q6 24) ?_
    exact w
theorem x_bucket_loop {d : Nat} {B : aH} (hB : a_Can B) (s : aZ) (l : aZL) (x1 : Int) (e : Nat) (he : e ≤ 8000) : ∀ (r : List Int) (p : Nat) (a : Int), p + r.length = e → Sg (zz s 2) p r → a_W d 6 5 [.ref 2, iv x1, iv (e : Int), iv a, iv (p : Int)] [] (mkH B s l) (fun q => q = (.inl (some (iv ((Int32.ofInt (bkF r a) &&& Int32.ofInt 255).toInt))), mkH B s l)) := by
  intro r
  induction r with
  | nil =>
    intro p a hp _
    have hp2 : p = e := by simpa using hp
    exact w6_5 hB x1 _ a _ s l ⟨⟨by omega, by omega⟩, ⟨by omega, by omega⟩, fun _ => rfl, fun h => absurd h (by omega)⟩
  | cons c r ih =>
    intro p a hp hg
    have hp2 : p + 1 + r.length = e := by rw [List.length_cons] at hp; omega
    obtain ⟨g1, g2⟩ := hg.tl
    refine w6_5 hB x1 _ a _ s l ⟨⟨by omega, by omega⟩, ⟨by omega, by omega⟩, fun h => absurd h (by omega), fun _ => ⟨⟨by omega, by omega⟩, ?_⟩⟩
    rw [natc, g1, show (p : Int) + 1 = ((p + 1 : Nat) : Int) by omega]
    exact ih (p + 1) (a * 31 + c) hp2 g2
theorem x_bucket {d : Nat} {B : aH} (hB : a_Can B) (s : aZ) (l : aZL) (a e : Nat) (r : List Int) (hr : a + r.length = e) (he : e ≤ 8000) (hg : Sg (zz s 2) a r) : a_W d 6 0 [.ref 2, iv (a : Int), iv (e : Int), .retAddr 0, .retAddr 0] [] (mkH B s l) (fun q => q = (.inl (some (iv (bkL r))), mkH B s l)) :=
  w6_0 hB _ _ s l (x_bucket_loop hB s l _ e he r a 0 hr hg)
theorem w40n5_0 {d : Nat} {B : aH} {Q : aR → Prop} (hB : a_Can B) (x1 x2 x4 : Int) (s : Nat → Nat → Int32) (l : Nat → Nat → Int64) (w : a_W d 40 3 [.ref 2, iv x1, iv x2, .ref 5, iv x4, iv 0] [] (mkH B s l) Q) : a_W d 40 0 [.ref 2, iv x1, iv x2, .ref 5, iv x4, .retAddr 0] [] (mkH B s l) Q := by
  refine w_ic (p := 1) (q40 0) rfl ?_
  refine w_is (p := 3) (ls' := [.ref 2, iv x1, iv x2, .ref 5, iv x4, iv 0]) (q40 1) rfl (Nat.le_of_ble_eq_true rfl) rfl ?_
  exact w
theorem w40n5_3 {d : Nat} {B : aH} {Q : aR → Prop} (hB : a_Can B) (x1 x2 x4 x5 : Int) (s : Nat → Nat → Int32) (l : Nat → Nat → Int64) (w : (inR x5 ∧ inR (x2 - x1) ∧ (((x2 - x1) ≤ x5 → Q (.inl (some (iv 1)), (mkH B s l))) ∧ (x5 < (x2 - x1) → ((0 ≤ (x1 + x5) ∧ (x1 + x5) < 8000) ∧ ((0 ≤ (x4 + x5) ∧ (x4 + x5) < 10240) ∧ (((zz s 2 (x1 + x5).toNat) = (zz s 5 (x4 + x5).toNat) → a_W d 40 3 [.ref 2, iv x1, iv x2, .ref 5, iv x4, iv (x5 + 1)] [] (mkH B s l) Q) ∧ ((zz s 2 (x1 + x5).toNat) ≠ (zz s 5 (x4 + x5).toNat) → Q (.inl (some (iv 0)), (mkH B s l)))))))))) : a_W d 40 3 [.ref 2, iv x1, iv x2, .ref 5, iv x4, iv x5] [] (mkH B s l) Q := by
  refine w_il (p := 5) (q40 3) rfl rfl ?_
  refine w_iln (p := 6) (q40 5) rfl rfl ?_
  refine w_iln (p := 7) (q40 6) rfl rfl ?_
  refine w_sub (p := 8) (q40 7) rfl ?_
  obtain ⟨h1, w⟩ := w
  obtain ⟨h2, w⟩ := w
  by_cases c3 : (x2 - x1) ≤ x5
  · replace w := w.1 c3
    refine w_i2t (q40 8) h1 h2 c3 ?_
    refine w_ic (p := 36) (q40 35) rfl ?_
    exact w_ret (q40 36) rfl w
  · replace w := w.2 (Int.not_le.mp c3)
    refine w_i2f (p := 11) (q40 8) rfl h1 h2 c3 ?_
    refine w_aln (p := 12) (q40 11) rfl rfl ?_
    refine w_iln (p := 13) (q40 12) rfl rfl ?_
    refine w_il (p := 15) (q40 13) rfl rfl ?_
    refine w_add (p := 16) (q40 15) rfl ?_
    obtain ⟨o4, w⟩ := w
    refine w_ba (p := 17) (v := (zz s 2 (x1 + x5).toNat)) (q40 16) rfl (r2 hB) (by decide) o4 (iv_zz s 2 (x1 + x5).toNat) ?_
    refine w_aln (p := 18) (q40 17) rfl rfl ?_
    refine w_il (p := 20) (q40 18) rfl rfl ?_
    refine w_il (p := 22) (q40 20) rfl rfl ?_
    refine w_add (p := 23) (q40 22) rfl ?_
    obtain ⟨o5, w⟩ := w
    refine w_ba (p := 24) (v := (zz s 5 (x4 + x5).toNat)) (q40 23) rfl (r5 hB) (by decide) o5 (iv_zz s 5 (x4 + x5).toNat) ?_
    by_cases c6 : (zz s 2 (x1 + x5).toNat) = (zz s 5 (x4 + x5).toNat)
    · replace w := w.1 c6
      refine w_i2t (q40 24) (inR_zz _ _ _) (inR_zz _ _ _) c6 ?_
      refine w_inc (p := 32) (ls' := [.ref 2, iv x1, iv x2, .ref 5, iv x4, iv (x5 + 1)]) (q40 29) rfl rfl rfl ?_
      refine w_goto (q40 32) ?_
      exact w
    · replace w := w.2 c6
      refine w_i2f (p := 27) (q40 24) rfl (inR_zz _ _ _) (inR_zz _ _ _) c6 ?_
      refine w_ic (p := 28) (q40 27) rfl ?_
      exact w_ret (q40 28) rfl w
theorem x_same_loop5 {d : Nat} {B : aH} (hB : a_Can B) (s : aZ) (l : aZL) (a b L : Nat) (ha : a + L ≤ 8000) (hb : b + L ≤ 10240) : ∀ (r m : List Int) (i : Nat), r.length = m.length → i + r.length = L → Sg (zz s 2) (a + i) r → Sg (zz s 5) (b + i) m → a_W d 40 3 [.ref 2, iv (a : Int), iv ((a : Int) + L), .ref 5, iv (b : Int), iv (i : Int)] [] (mkH B s l) (fun q => q = (.inl (some (iv (if r = m then 1 else 0))), mkH B s l)) := by
  intro r
  induction r with
  | nil =>
    intro m i hm hi _ _
    have hm2 : m = [] := List.eq_nil_of_length_eq_zero hm.symm
    subst hm2
    have hi2 : i = L := by simpa using hi
    exact w40n5_3 hB _ _ _ _ s l ⟨⟨by omega, by omega⟩, ⟨by omega, by omega⟩, fun _ => rfl, fun h => absurd h (by omega)⟩
  | cons c r ih =>
    intro m i hm hi g1 g2
    cases m with
    | nil => cases hm
    | cons c2 m =>
      have hi2 : i + 1 + r.length = L := by rw [List.length_cons] at hi; omega
      obtain ⟨k1, k2⟩ := g1.tl
      obtain ⟨k3, k4⟩ := g2.tl
      refine w40n5_3 hB _ _ _ _ s l ⟨⟨by omega, by omega⟩, ⟨by omega, by omega⟩, fun h => absurd h (by omega), fun _ => ⟨⟨by omega, by omega⟩, ⟨by omega, by omega⟩, ?_⟩⟩
      rw [show ((a : Int) + (i : Int)).toNat = a + i by omega, show ((b : Int) + (i : Int)).toNat = b + i by omega, k1, k3]
      refine ⟨fun e => ?_, fun e => ?_⟩
      · have := ih m (i + 1) (by simpa using hm) hi2 k2 k4
        rw [show (i : Int) + 1 = ((i + 1 : Nat) : Int) by omega]
        refine a_W.imp this ?_
        rintro _ rfl
        rw [e]
        by_cases h : r = m
        · rw [if_pos h, if_pos (by rw [h])]
        · rw [if_neg h, if_neg (fun q => h (List.cons.inj q).2)]
      · rw [if_neg (fun q => e (List.cons.inj q).1)]
theorem x_same5 {d : Nat} {B : aH} (hB : a_Can B) (s : aZ) (l : aZL) (a b e : Nat) (r m : List Int) (hm : r.length = m.length) (he : a + r.length = e) (ha : e ≤ 8000) (hb : b + r.length ≤ 10240) (g1 : Sg (zz s 2) a r) (g2 : Sg (zz s 5) b m) : a_W d 40 0 [.ref 2, iv (a : Int), iv (e : Int), .ref 5, iv (b : Int), .retAddr 0] [] (mkH B s l) (fun q => q = (.inl (some (iv (if r = m then 1 else 0))), mkH B s l)) := by
  have e1 : (e : Int) = (a : Int) + (r.length : Int) := by omega
  rw [e1]
  exact w40n5_0 hB _ _ _ s l (x_same_loop5 hB s l a b r.length (by omega) hb r m 0 hm (by omega) g1 g2)
theorem w40n12_0 {d : Nat} {B : aH} {Q : aR → Prop} (hB : a_Can B) (x1 x2 x4 : Int) (s : Nat → Nat → Int32) (l : Nat → Nat → Int64) (w : a_W d 40 3 [.ref 2, iv x1, iv x2, .ref 12, iv x4, iv 0] [] (mkH B s l) Q) : a_W d 40 0 [.ref 2, iv x1, iv x2, .ref 12, iv x4, .retAddr 0] [] (mkH B s l) Q := by
  refine w_ic (p := 1) (q40 0) rfl ?_
  refine w_is (p := 3) (ls' := [.ref 2, iv x1, iv x2, .ref 12, iv x4, iv 0]) (q40 1) rfl (Nat.le_of_ble_eq_true rfl) rfl ?_
  exact w
theorem w40n12_3 {d : Nat} {B : aH} {Q : aR → Prop} (hB : a_Can B) (x1 x2 x4 x5 : Int) (s : Nat → Nat → Int32) (l : Nat → Nat → Int64) (w : (inR x5 ∧ inR (x2 - x1) ∧ (((x2 - x1) ≤ x5 → Q (.inl (some (iv 1)), (mkH B s l))) ∧ (x5 < (x2 - x1) → ((0 ≤ (x1 + x5) ∧ (x1 + x5) < 8000) ∧ ((0 ≤ (x4 + x5) ∧ (x4 + x5) < 816) ∧ (((zz s 2 (x1 + x5).toNat) = (zz s 12 (x4 + x5).toNat) → a_W d 40 3 [.ref 2, iv x1, iv x2, .ref 12, iv x4, iv (x5 + 1)] [] (mkH B s l) Q) ∧ ((zz s 2 (x1 + x5).toNat) ≠ (zz s 12 (x4 + x5).toNat) → Q (.inl (some (iv 0)), (mkH B s l)))))))))) : a_W d 40 3 [.ref 2, iv x1, iv x2, .ref 12, iv x4, iv x5] [] (mkH B s l) Q := by
  refine w_il (p := 5) (q40 3) rfl rfl ?_
  refine w_iln (p := 6) (q40 5) rfl rfl ?_
  refine w_iln (p := 7) (q40 6) rfl rfl ?_
  refine w_sub (p := 8) (q40 7) rfl ?_
  obtain ⟨h1, w⟩ := w
  obtain ⟨h2, w⟩ := w
  by_cases c3 : (x2 - x1) ≤ x5
  · replace w := w.1 c3
    refine w_i2t (q40 8) h1 h2 c3 ?_
    refine w_ic (p := 36) (q40 35) rfl ?_
    exact w_ret (q40 36) rfl w
  · replace w := w.2 (Int.not_le.mp c3)
    refine w_i2f (p := 11) (q40 8) rfl h1 h2 c3 ?_
    refine w_aln (p := 12) (q40 11) rfl rfl ?_
    refine w_iln (p := 13) (q40 12) rfl rfl ?_
    refine w_il (p := 15) (q40 13) rfl rfl ?_
    refine w_add (p := 16) (q40 15) rfl ?_
    obtain ⟨o4, w⟩ := w
    refine w_ba (p := 17) (v := (zz s 2 (x1 + x5).toNat)) (q40 16) rfl (r2 hB) (by decide) o4 (iv_zz s 2 (x1 + x5).toNat) ?_
    refine w_aln (p := 18) (q40 17) rfl rfl ?_
    refine w_il (p := 20) (q40 18) rfl rfl ?_
    refine w_il (p := 22) (q40 20) rfl rfl ?_
    refine w_add (p := 23) (q40 22) rfl ?_
    obtain ⟨o5, w⟩ := w
    refine w_ba (p := 24) (v := (zz s 12 (x4 + x5).toNat)) (q40 23) rfl (r12 hB) (by decide) o5 (iv_zz s 12 (x4 + x5).toNat) ?_
    by_cases c6 : (zz s 2 (x1 + x5).toNat) = (zz s 12 (x4 + x5).toNat)
    · replace w := w.1 c6
      refine w_i2t (q40 24) (inR_zz _ _ _) (inR_zz _ _ _) c6 ?_
      refine w_inc (p := 32) (ls' := [.ref 2, iv x1, iv x2, .ref 12, iv x4, iv (x5 + 1)]) (q40 29) rfl rfl rfl ?_
      refine w_goto (q40 32) ?_
      exact w
    · replace w := w.2 c6
      refine w_i2f (p := 27) (q40 24) rfl (inR_zz _ _ _) (inR_zz _ _ _) c6 ?_
      refine w_ic (p := 28) (q40 27) rfl ?_
      exact w_ret (q40 28) rfl w
theorem x_same_loop12 {d : Nat} {B : aH} (hB : a_Can B) (s : aZ) (l : aZL) (a b L : Nat) (ha : a + L ≤ 8000) (hb : b + L ≤ 816) : ∀ (r m : List Int) (i : Nat), r.length = m.length → i + r.length = L → Sg (zz s 2) (a + i) r → Sg (zz s 12) (b + i) m → a_W d 40 3 [.ref 2, iv (a : Int), iv ((a : Int) + L), .ref 12, iv (b : Int), iv (i : Int)] [] (mkH B s l) (fun q => q = (.inl (some (iv (if r = m then 1 else 0))), mkH B s l)) := by
  intro r
  induction r with
  | nil =>
    intro m i hm hi _ _
    have hm2 : m = [] := List.eq_nil_of_length_eq_zero hm.symm
    subst hm2
    have hi2 : i = L := by simpa using hi
    exact w40n12_3 hB _ _ _ _ s l ⟨⟨by omega, by omega⟩, ⟨by omega, by omega⟩, fun _ => rfl, fun h => absurd h (by omega)⟩
  | cons c r ih =>
    intro m i hm hi g1 g2
    cases m with
    | nil => cases hm
    | cons c2 m =>
      have hi2 : i + 1 + r.length = L := by rw [List.length_cons] at hi; omega
      obtain ⟨k1, k2⟩ := g1.tl
      obtain ⟨k3, k4⟩ := g2.tl
      refine w40n12_3 hB _ _ _ _ s l ⟨⟨by omega, by omega⟩, ⟨by omega, by omega⟩, fun h => absurd h (by omega), fun _ => ⟨⟨by omega, by omega⟩, ⟨by omega, by omega⟩, ?_⟩⟩
      rw [show ((a : Int) + (i : Int)).toNat = a + i by omega, show ((b : Int) + (i : Int)).toNat = b + i by omega, k1, k3]
      refine ⟨fun e => ?_, fun e => ?_⟩
      · have := ih m (i + 1) (by simpa using hm) hi2 k2 k4
        rw [show (i : Int) + 1 = ((i + 1 : Nat) : Int) by omega]
        refine a_W.imp this ?_
        rintro _ rfl
        rw [e]
        by_cases h : r = m
        · rw [if_pos h, if_pos (by rw [h])]
        · rw [if_neg h, if_neg (fun q => h (List.cons.inj q).2)]
      · rw [if_neg (fun q => e (List.cons.inj q).1)]
theorem x_same12 {d : Nat} {B : aH} (hB : a_Can B) (s : aZ) (l : aZL) (a b e : Nat) (r m : List Int) (hm : r.length = m.length) (he : a + r.length = e) (ha : e ≤ 8000) (hb : b + r.length ≤ 816) (g1 : Sg (zz s 2) a r) (g2 : Sg (zz s 12) b m) : a_W d 40 0 [.ref 2, iv (a : Int), iv (e : Int), .ref 12, iv (b : Int), .retAddr 0] [] (mkH B s l) (fun q => q = (.inl (some (iv (if r = m then 1 else 0))), mkH B s l)) := by
  have e1 : (e : Int) = (a : Int) + (r.length : Int) := by omega
  rw [e1]
  exact w40n12_0 hB _ _ _ s l (x_same_loop12 hB s l a b r.length (by omega) hb r m 0 hm (by omega) g1 g2)
theorem w40n28_0 {d : Nat} {B : aH} {Q : aR → Prop} (hB : a_Can B) (x1 x2 x4 : Int) (s : Nat → Nat → Int32) (l : Nat → Nat → Int64) (w : a_W d 40 3 [.ref 2, iv x1, iv x2, .ref 28, iv x4, iv 0] [] (mkH B s l) Q) : a_W d 40 0 [.ref 2, iv x1, iv x2, .ref 28, iv x4, .retAddr 0] [] (mkH B s l) Q := by
  refine w_ic (p := 1) (q40 0) rfl ?_
  refine w_is (p := 3) (ls' := [.ref 2, iv x1, iv x2, .ref 28, iv x4, iv 0]) (q40 1) rfl (Nat.le_of_ble_eq_true rfl) rfl ?_
  exact w
theorem w40n28_3 {d : Nat} {B : aH} {Q : aR → Prop} (hB : a_Can B) (x1 x2 x4 x5 : Int) (s : Nat → Nat → Int32) (l : Nat → Nat → Int64) (w : (inR x5 ∧ inR (x2 - x1) ∧ (((x2 - x1) ≤ x5 → Q (.inl (some (iv 1)), (mkH B s l))) ∧ (x5 < (x2 - x1) → ((0 ≤ (x1 + x5) ∧ (x1 + x5) < 8000) ∧ ((0 ≤ (x4 + x5) ∧ (x4 + x5) < 2688) ∧ (((zz s 2 (x1 + x5).toNat) = (zz s 28 (x4 + x5).toNat) → a_W d 40 3 [.ref 2, iv x1, iv x2, .ref 28, iv x4, iv (x5 + 1)] [] (mkH B s l) Q) ∧ ((zz s 2 (x1 + x5).toNat) ≠ (zz s 28 (x4 + x5).toNat) → Q (.inl (some (iv 0)), (mkH B s l)))))))))) : a_W d 40 3 [.ref 2, iv x1, iv x2, .ref 28, iv x4, iv x5] [] (mkH B s l) Q := by
  refine w_il (p := 5) (q40 3) rfl rfl ?_
  refine w_iln (p := 6) (q40 5) rfl rfl ?_
  refine w_iln (p := 7) (q40 6) rfl rfl ?_
  refine w_sub (p := 8) (q40 7) rfl ?_
  obtain ⟨h1, w⟩ := w
  obtain ⟨h2, w⟩ := w
  by_cases c3 : (x2 - x1) ≤ x5
  · replace w := w.1 c3
    refine w_i2t (q40 8) h1 h2 c3 ?_
    refine w_ic (p := 36) (q40 35) rfl ?_
    exact w_ret (q40 36) rfl w
  · replace w := w.2 (Int.not_le.mp c3)
    refine w_i2f (p := 11) (q40 8) rfl h1 h2 c3 ?_
    refine w_aln (p := 12) (q40 11) rfl rfl ?_
    refine w_iln (p := 13) (q40 12) rfl rfl ?_
    refine w_il (p := 15) (q40 13) rfl rfl ?_
    refine w_add (p := 16) (q40 15) rfl ?_
    obtain ⟨o4, w⟩ := w
    refine w_ba (p := 17) (v := (zz s 2 (x1 + x5).toNat)) (q40 16) rfl (r2 hB) (by decide) o4 (iv_zz s 2 (x1 + x5).toNat) ?_
    refine w_aln (p := 18) (q40 17) rfl rfl ?_
    refine w_il (p := 20) (q40 18) rfl rfl ?_
    refine w_il (p := 22) (q40 20) rfl rfl ?_
    refine w_add (p := 23) (q40 22) rfl ?_
    obtain ⟨o5, w⟩ := w
    refine w_ba (p := 24) (v := (zz s 28 (x4 + x5).toNat)) (q40 23) rfl (r28 hB) (by decide) o5 (iv_zz s 28 (x4 + x5).toNat) ?_
    by_cases c6 : (zz s 2 (x1 + x5).toNat) = (zz s 28 (x4 + x5).toNat)
    · replace w := w.1 c6
      refine w_i2t (q40 24) (inR_zz _ _ _) (inR_zz _ _ _) c6 ?_
      refine w_inc (p := 32) (ls' := [.ref 2, iv x1, iv x2, .ref 28, iv x4, iv (x5 + 1)]) (q40 29) rfl rfl rfl ?_
      refine w_goto (q40 32) ?_
      exact w
    · replace w := w.2 c6
      refine w_i2f (p := 27) (q40 24) rfl (inR_zz _ _ _) (inR_zz _ _ _) c6 ?_
      refine w_ic (p := 28) (q40 27) rfl ?_
      exact w_ret (q40 28) rfl w
theorem x_same_loop28 {d : Nat} {B : aH} (hB : a_Can B) (s : aZ) (l : aZL) (a b L : Nat) (ha : a + L ≤ 8000) (hb : b + L ≤ 2688) : ∀ (r m : List Int) (i : Nat), r.length = m.length → i + r.length = L → Sg (zz s 2) (a + i) r → Sg (zz s 28) (b + i) m → a_W d 40 3 [.ref 2, iv (a : Int), iv ((a : Int) + L), .ref 28, iv (b : Int), iv (i : Int)] [] (mkH B s l) (fun q => q = (.inl (some (iv (if r = m then 1 else 0))), mkH B s l)) := by
  intro r
  induction r with
  | nil =>
    intro m i hm hi _ _
    have hm2 : m = [] := List.eq_nil_of_length_eq_zero hm.symm
    subst hm2
    have hi2 : i = L := by simpa using hi
    exact w40n28_3 hB _ _ _ _ s l ⟨⟨by omega, by omega⟩, ⟨by omega, by omega⟩, fun _ => rfl, fun h => absurd h (by omega)⟩
  | cons c r ih =>
    intro m i hm hi g1 g2
    cases m with
    | nil => cases hm
    | cons c2 m =>
      have hi2 : i + 1 + r.length = L := by rw [List.length_cons] at hi; omega
      obtain ⟨k1, k2⟩ := g1.tl
      obtain ⟨k3, k4⟩ := g2.tl
      refine w40n28_3 hB _ _ _ _ s l ⟨⟨by omega, by omega⟩, ⟨by omega, by omega⟩, fun h => absurd h (by omega), fun _ => ⟨⟨by omega, by omega⟩, ⟨by omega, by omega⟩, ?_⟩⟩
      rw [show ((a : Int) + (i : Int)).toNat = a + i by omega, show ((b : Int) + (i : Int)).toNat = b + i by omega, k1, k3]
      refine ⟨fun e => ?_, fun e => ?_⟩
      · have := ih m (i + 1) (by simpa using hm) hi2 k2 k4
        rw [show (i : Int) + 1 = ((i + 1 : Nat) : Int) by omega]
        refine a_W.imp this ?_
        rintro _ rfl
        rw [e]
        by_cases h : r = m
        · rw [if_pos h, if_pos (by rw [h])]
        · rw [if_neg h, if_neg (fun q => h (List.cons.inj q).2)]
      · rw [if_neg (fun q => e (List.cons.inj q).1)]
theorem x_same28 {d : Nat} {B : aH} (hB : a_Can B) (s : aZ) (l : aZL) (a b e : Nat) (r m : List Int) (hm : r.length = m.length) (he : a + r.length = e) (ha : e ≤ 8000) (hb : b + r.length ≤ 2688) (g1 : Sg (zz s 2) a r) (g2 : Sg (zz s 28) b m) : a_W d 40 0 [.ref 2, iv (a : Int), iv (e : Int), .ref 28, iv (b : Int), .retAddr 0] [] (mkH B s l) (fun q => q = (.inl (some (iv (if r = m then 1 else 0))), mkH B s l)) := by
  have e1 : (e : Int) = (a : Int) + (r.length : Int) := by omega
  rw [e1]
  exact w40n28_0 hB _ _ _ s l (x_same_loop28 hB s l a b r.length (by omega) hb r m 0 hm (by omega) g1 g2)
theorem w40n2_0 {d : Nat} {B : aH} {Q : aR → Prop} (hB : a_Can B) (x1 x2 x4 : Int) (s : Nat → Nat → Int32) (l : Nat → Nat → Int64) (w : a_W d 40 3 [.ref 2, iv x1, iv x2, .ref 2, iv x4, iv 0] [] (mkH B s l) Q) : a_W d 40 0 [.ref 2, iv x1, iv x2, .ref 2, iv x4, .retAddr 0] [] (mkH B s l) Q := by
  refine w_ic (p := 1) (q40 0) rfl ?_
  refine w_is (p := 3) (ls' := [.ref 2, iv x1, iv x2, .ref 2, iv x4, iv 0]) (q40 1) rfl (Nat.le_of_ble_eq_true rfl) rfl ?_
  exact w
theorem w40n2_3 {d : Nat} {B : aH} {Q : aR → Prop} (hB : a_Can B) (x1 x2 x4 x5 : Int) (s : Nat → Nat → Int32) (l : Nat → Nat → Int64) (w : (inR x5 ∧ inR (x2 - x1) ∧ (((x2 - x1) ≤ x5 → Q (.inl (some (iv 1)), (mkH B s l))) ∧ (x5 < (x2 - x1) → ((0 ≤ (x1 + x5) ∧ (x1 + x5) < 8000) ∧ ((0 ≤ (x4 + x5) ∧ (x4 + x5) < 8000) ∧ (((zz s 2 (x1 + x5).toNat) = (zz s 2 (x4 + x5).toNat) → a_W d 40 3 [.ref 2, iv x1, iv x2, .ref 2, iv x4, iv (x5 + 1)] [] (mkH B s l) Q) ∧ ((zz s 2 (x1 + x5).toNat) ≠ (zz s 2 (x4 + x5).toNat) → Q (.inl (some (iv 0)), (mkH B s l)))))))))) : a_W d 40 3 [.ref 2, iv x1, iv x2, .ref 2, iv x4, iv x5] [] (mkH B s l) Q := by
  refine w_il (p := 5) (q40 3) rfl rfl ?_
  refine w_iln (p := 6) (q40 5) rfl rfl ?_
  refine w_iln (p := 7) (q40 6) rfl rfl ?_
  refine w_sub (p := 8) (q40 7) rfl ?_
  obtain ⟨h1, w⟩ := w
  obtain ⟨h2, w⟩ := w
  by_cases c3 : (x2 - x1) ≤ x5
  · replace w := w.1 c3
    refine w_i2t (q40 8) h1 h2 c3 ?_
    refine w_ic (p := 36) (q40 35) rfl ?_
    exact w_ret (q40 36) rfl w
  · replace w := w.2 (Int.not_le.mp c3)
    refine w_i2f (p := 11) (q40 8) rfl h1 h2 c3 ?_
    refine w_aln (p := 12) (q40 11) rfl rfl ?_
    refine w_iln (p := 13) (q40 12) rfl rfl ?_
    refine w_il (p := 15) (q40 13) rfl rfl ?_
    refine w_add (p := 16) (q40 15) rfl ?_
    obtain ⟨o4, w⟩ := w
    refine w_ba (p := 17) (v := (zz s 2 (x1 + x5).toNat)) (q40 16) rfl (r2 hB) (by decide) o4 (iv_zz s 2 (x1 + x5).toNat) ?_
    refine w_aln (p := 18) (q40 17) rfl rfl ?_
    refine w_il (p := 20) (q40 18) rfl rfl ?_
    refine w_il (p := 22) (q40 20) rfl rfl ?_
    refine w_add (p := 23) (q40 22) rfl ?_
    obtain ⟨o5, w⟩ := w
    refine w_ba (p := 24) (v := (zz s 2 (x4 + x5).toNat)) (q40 23) rfl (r2 hB) (by decide) o5 (iv_zz s 2 (x4 + x5).toNat) ?_
    by_cases c6 : (zz s 2 (x1 + x5).toNat) = (zz s 2 (x4 + x5).toNat)
    · replace w := w.1 c6
      refine w_i2t (q40 24) (inR_zz _ _ _) (inR_zz _ _ _) c6 ?_
      refine w_inc (p := 32) (ls' := [.ref 2, iv x1, iv x2, .ref 2, iv x4, iv (x5 + 1)]) (q40 29) rfl rfl rfl ?_
      refine w_goto (q40 32) ?_
      exact w
    · replace w := w.2 c6
      refine w_i2f (p := 27) (q40 24) rfl (inR_zz _ _ _) (inR_zz _ _ _) c6 ?_
      refine w_ic (p := 28) (q40 27) rfl ?_
      exact w_ret (q40 28) rfl w
theorem x_same_loop2 {d : Nat} {B : aH} (hB : a_Can B) (s : aZ) (l : aZL) (a b L : Nat) (ha : a + L ≤ 8000) (hb : b + L ≤ 8000) : ∀ (r m : List Int) (i : Nat), r.length = m.length → i + r.length = L → Sg (zz s 2) (a + i) r → Sg (zz s 2) (b + i) m → a_W d 40 3 [.ref 2, iv (a : Int), iv ((a : Int) + L), .ref 2, iv (b : Int), iv (i : Int)] [] (mkH B s l) (fun q => q = (.inl (some (iv (if r = m then 1 else 0))), mkH B s l)) := by
  intro r
  induction r with
  | nil =>
    intro m i hm hi _ _
    have hm2 : m = [] := List.eq_nil_of_length_eq_zero hm.symm
    subst hm2
    have hi2 : i = L := by simpa using hi
    exact w40n2_3 hB _ _ _ _ s l ⟨⟨by omega, by omega⟩, ⟨by omega, by omega⟩, fun _ => rfl, fun h => absurd h (by omega)⟩
  | cons c r ih =>
    intro m i hm hi g1 g2
    cases m with
    | nil => cases hm
    | cons c2 m =>
      have hi2 : i + 1 + r.length = L := by rw [List.length_cons] at hi; omega
      obtain ⟨k1, k2⟩ := g1.tl
      obtain ⟨k3, k4⟩ := g2.tl
      refine w40n2_3 hB _ _ _ _ s l ⟨⟨by omega, by omega⟩, ⟨by omega, by omega⟩, fun h => absurd h (by omega), fun _ => ⟨⟨by omega, by omega⟩, ⟨by omega, by omega⟩, ?_⟩⟩
      rw [show ((a : Int) + (i : Int)).toNat = a + i by omega, show ((b : Int) + (i : Int)).toNat = b + i by omega, k1, k3]
      refine ⟨fun e => ?_, fun e => ?_⟩
      · have := ih m (i + 1) (by simpa using hm) hi2 k2 k4
        rw [show (i : Int) + 1 = ((i + 1 : Nat) : Int) by omega]
        refine a_W.imp this ?_
        rintro _ rfl
        rw [e]
        by_cases h : r = m
        · rw [if_pos h, if_pos (by rw [h])]
        · rw [if_neg h, if_neg (fun q => h (List.cons.inj q).2)]
      · rw [if_neg (fun q => e (List.cons.inj q).1)]
theorem x_same2 {d : Nat} {B : aH} (hB : a_Can B) (s : aZ) (l : aZL) (a b e : Nat) (r m : List Int) (hm : r.length = m.length) (he : a + r.length = e) (ha : e ≤ 8000) (hb : b + r.length ≤ 8000) (g1 : Sg (zz s 2) a r) (g2 : Sg (zz s 2) b m) : a_W d 40 0 [.ref 2, iv (a : Int), iv (e : Int), .ref 2, iv (b : Int), .retAddr 0] [] (mkH B s l) (fun q => q = (.inl (some (iv (if r = m then 1 else 0))), mkH B s l)) := by
  have e1 : (e : Int) = (a : Int) + (r.length : Int) := by omega
  rw [e1]
  exact w40n2_0 hB _ _ _ s l (x_same_loop2 hB s l a b r.length (by omega) hb r m 0 hm (by omega) g1 g2)
theorem w39n3_0 {d : Nat} {B : aH} {Q : aR → Prop} (hB : a_Can B) (hd : 1 ≤ d) (x2 x3 : Int) (s : Nat → Nat → Int32) (l : Nat → Nat → Int64) (w : a_W (d - 1) 6 0 [.ref 2, iv x2, iv x3, .retAddr 0, .retAddr 0] [] (mkH B s l) (fun r => ∃ (v3 : Int) (s1 : Nat → Nat → Int32) (l2 : Nat → Nat → Int64), r = (.inl (some (iv v3)), mkH B s1 l2) ∧ ((0 ≤ v3 ∧ v3 < 256) ∧ a_W d 39 16 [.ref 3, .ref 2, iv x2, iv x3, iv (zz s1 4 v3.toNat), iv 0] [] (mkH B s1 l2) Q))) : a_W d 39 0 [.ref 3, .ref 2, iv x2, iv x3, .retAddr 0, .retAddr 0] [] (mkH B s l) Q := by
  refine w_aln (p := 1) (q39 0) rfl rfl ?_
  refine w_gR (p := 4) (j := 3) (v := 4) (q39 1) rfl (r3 hB) (by decide) (f3_3 hB) ?_
  refine w_aln (p := 5) (q39 4) rfl rfl ?_
  refine w_iln (p := 6) (q39 5) rfl rfl ?_
  refine w_iln (p := 7) (q39 6) rfl rfl ?_
  refine w_call (st := [.ref 4]) (as := [.ref 2, iv x2, iv x3]) (as' := [iv x3, iv x2, .ref 2]) (p := 10) (q39 7) rfl m6 (by decide) (a_ok_s rfl rfl) rfl rfl (Nat.le_of_ble_eq_true rfl) (by omega) rfl rfl (a_W.imp w ?_)
  rintro _ ⟨v3, s1, l2, rfl, w⟩
  refine ⟨some (iv v3), _, rfl, ?_⟩
  show a_W _ 39 10 [.ref 3, .ref 2, iv x2, iv x3, .retAddr 0, .retAddr 0] [iv v3, .ref 4] (mkH B s1 l2) _
  obtain ⟨o4, w⟩ := w
  refine w_ia (p := 11) (v := (zz s1 4 v3.toNat)) (q39 10) rfl (r4 hB) (by decide) o4 (iv_zz s1 4 v3.toNat) ?_
  refine w_is (p := 13) (ls' := [.ref 3, .ref 2, iv x2, iv x3, iv (zz s1 4 v3.toNat), .retAddr 0]) (q39 11) rfl (Nat.le_of_ble_eq_true rfl) rfl ?_
  refine w_ic (p := 14) (q39 13) rfl ?_
  refine w_is (p := 16) (ls' := [.ref 3, .ref 2, iv x2, iv x3, iv (zz s1 4 v3.toNat), iv 0]) (q39 14) rfl (Nat.le_of_ble_eq_true rfl) rfl ?_
  exact w
theorem w39n3_16 {d : Nat} {B : aH} {Q : aR → Prop} (hB : a_Can B) (hd : 1 ≤ d) (x2 x3 x4 x5 : Int) (s : Nat → Nat → Int32) (l : Nat → Nat → Int64) (w : (inR x5 ∧ (((zz s 3 4) ≤ x5 → Q (.inl (some (iv (-1))), (mkH B s l))) ∧ (x5 < (zz s 3 4) → (inR x4 ∧ ((x4 < 0 → Q (.inl (some (iv (-1))), (mkH B s l))) ∧ (0 ≤ x4 → ((0 ≤ (x4 + 1) ∧ (x4 + 1) < 3001) ∧ ((0 ≤ x4 ∧ x4 < 3001) ∧ (inR ((zz s 6 (x4 + 1).toNat) - (zz s 6 x4.toNat)) ∧ inR (x3 - x2) ∧ ((((zz s 6 (x4 + 1).toNat) - (zz s 6 x4.toNat)) ≠ (x3 - x2) → ((0 ≤ x4 ∧ x4 < 3000) ∧ a_W d 39 16 [.ref 3, .ref 2, iv x2, iv x3, iv (zz s 7 x4.toNat), iv (x5 + 1)] [] (mkH B s l) Q)) ∧ (((zz s 6 (x4 + 1).toNat) - (zz s 6 x4.toNat)) = (x3 - x2) → a_W (d - 1) 40 0 [.ref 2, iv x2, iv x3, .ref 5, iv (zz s 6 x4.toNat), .retAddr 0] [] (mkH B s l) (fun r => ∃ (v13 : Int) (s11 : Nat → Nat → Int32) (l12 : Nat → Nat → Int64), r = (.inl (some (iv v13)), mkH B s11 l12) ∧ (inR v13 ∧ ((v13 = 0 → ((0 ≤ x4 ∧ x4 < 3000) ∧ a_W d 39 16 [.ref 3, .ref 2, iv x2, iv x3, iv (zz s11 7 x4.toNat), iv (x5 + 1)] [] (mkH B s11 l12) Q)) ∧ (v13 ≠ 0 → Q (.inl (some (iv x4)), (mkH B s11 l12)))))))))))))))))) : a_W d 39 16 [.ref 3, .ref 2, iv x2, iv x3, iv x4, iv x5] [] (mkH B s l) Q := by
  refine w_il (p := 18) (q39 16) rfl rfl ?_
  refine w_aln (p := 19) (q39 18) rfl rfl ?_
  refine w_gI (p := 22) (j := 4) (v := (zz s 3 4)) (q39 19) rfl (r3 hB) (by decide) (iv_zz s 3 4) ?_
  obtain ⟨h1, w⟩ := w
  by_cases c2 : (zz s 3 4) ≤ x5
  · replace w := w.1 c2
    refine w_i2t (q39 22) h1 (inR_zz _ _ _) c2 ?_
    refine w_ic (p := 92) (q39 91) rfl ?_
    exact w_ret (q39 92) rfl w
  · replace w := w.2 (Int.not_le.mp c2)
    refine w_i2f (p := 25) (q39 22) rfl h1 (inR_zz _ _ _) c2 ?_
    refine w_il (p := 27) (q39 25) rfl rfl ?_
    obtain ⟨h3, w⟩ := w
    by_cases c4 : x4 < 0
    · replace w := w.1 c4
      refine w_i1t (q39 27) h3 c4 ?_
      refine w_ic (p := 92) (q39 91) rfl ?_
      exact w_ret (q39 92) rfl w
    · replace w := w.2 (Int.not_lt.mp c4)
      refine w_i1f (p := 30) (q39 27) rfl h3 c4 ?_
      refine w_aln (p := 31) (q39 30) rfl rfl ?_
      refine w_gR (p := 34) (j := 1) (v := 6) (q39 31) rfl (r3 hB) (by decide) (f3_1 hB) ?_
      refine w_il (p := 36) (q39 34) rfl rfl ?_
      refine w_ic (p := 37) (q39 36) rfl ?_
      refine w_add (p := 38) (q39 37) rfl ?_
      obtain ⟨o5, w⟩ := w
      refine w_ia (p := 39) (v := (zz s 6 (x4 + 1).toNat)) (q39 38) rfl (r6 hB) (by decide) o5 (iv_zz s 6 (x4 + 1).toNat) ?_
      refine w_aln (p := 40) (q39 39) rfl rfl ?_
      refine w_gR (p := 43) (j := 1) (v := 6) (q39 40) rfl (r3 hB) (by decide) (f3_1 hB) ?_
      refine w_il (p := 45) (q39 43) rfl rfl ?_
      obtain ⟨o6, w⟩ := w
      refine w_ia (p := 46) (v := (zz s 6 x4.toNat)) (q39 45) rfl (r6 hB) (by decide) o6 (iv_zz s 6 x4.toNat) ?_
      refine w_sub (p := 47) (q39 46) rfl ?_
      refine w_iln (p := 48) (q39 47) rfl rfl ?_
      refine w_iln (p := 49) (q39 48) rfl rfl ?_
      refine w_sub (p := 50) (q39 49) rfl ?_
      obtain ⟨h7, w⟩ := w
      obtain ⟨h8, w⟩ := w
      by_cases c9 : ((zz s 6 (x4 + 1).toNat) - (zz s 6 x4.toNat)) ≠ (x3 - x2)
      · replace w := w.1 c9
        refine w_i2t (q39 50) h7 h8 c9 ?_
        refine w_aln (p := 77) (q39 76) rfl rfl ?_
        refine w_gR (p := 80) (j := 2) (v := 7) (q39 77) rfl (r3 hB) (by decide) (f3_2 hB) ?_
        refine w_il (p := 82) (q39 80) rfl rfl ?_
        obtain ⟨o10, w⟩ := w
        refine w_ia (p := 83) (v := (zz s 7 x4.toNat)) (q39 82) rfl (r7 hB) (by decide) o10 (iv_zz s 7 x4.toNat) ?_
        refine w_is (p := 85) (ls' := [.ref 3, .ref 2, iv x2, iv x3, iv (zz s 7 x4.toNat), iv x5]) (q39 83) rfl (Nat.le_of_ble_eq_true rfl) rfl ?_
        refine w_inc (p := 88) (ls' := [.ref 3, .ref 2, iv x2, iv x3, iv (zz s 7 x4.toNat), iv (x5 + 1)]) (q39 85) rfl rfl rfl ?_
        refine w_goto (q39 88) ?_
        exact w
      · replace w := w.2 (Decidable.not_not.mp c9)
        refine w_i2f (p := 53) (q39 50) rfl h7 h8 c9 ?_
        refine w_aln (p := 54) (q39 53) rfl rfl ?_
        refine w_iln (p := 55) (q39 54) rfl rfl ?_
        refine w_iln (p := 56) (q39 55) rfl rfl ?_
        refine w_aln (p := 57) (q39 56) rfl rfl ?_
        refine w_gR (p := 60) (j := 0) (v := 5) (q39 57) rfl (r3 hB) (by decide) (f3_0 hB) ?_
        refine w_aln (p := 61) (q39 60) rfl rfl ?_
        refine w_gR (p := 64) (j := 1) (v := 6) (q39 61) rfl (r3 hB) (by decide) (f3_1 hB) ?_
        refine w_il (p := 66) (q39 64) rfl rfl ?_
        refine w_ia (p := 67) (v := (zz s 6 x4.toNat)) (q39 66) rfl (r6 hB) (by decide) o6 (iv_zz s 6 x4.toNat) ?_
        refine w_call (st := []) (as := [.ref 2, iv x2, iv x3, .ref 5, iv (zz s 6 x4.toNat)]) (as' := [iv (zz s 6 x4.toNat), .ref 5, iv x3, iv x2, .ref 2]) (p := 70) (q39 67) rfl m40 (by decide) (a_ok_s rfl rfl) rfl rfl (Nat.le_of_ble_eq_true rfl) (by omega) rfl rfl (a_W.imp w ?_)
        rintro _ ⟨v13, s11, l12, rfl, w⟩
        refine ⟨some (iv v13), _, rfl, ?_⟩
        show a_W _ 39 70 [.ref 3, .ref 2, iv x2, iv x3, iv x4, iv x5] [iv v13] (mkH B s11 l12) _
        obtain ⟨h14, w⟩ := w
        by_cases c15 : v13 = 0
        · replace w := w.1 c15
          refine w_i1t (q39 70) h14 c15 ?_
          refine w_aln (p := 77) (q39 76) rfl rfl ?_
          refine w_gR (p := 80) (j := 2) (v := 7) (q39 77) rfl (r3 hB) (by decide) (f3_2 hB) ?_
          refine w_il (p := 82) (q39 80) rfl rfl ?_
          obtain ⟨o16, w⟩ := w
          refine w_ia (p := 83) (v := (zz s11 7 x4.toNat)) (q39 82) rfl (r7 hB) (by decide) o16 (iv_zz s11 7 x4.toNat) ?_
          refine w_is (p := 85) (ls' := [.ref 3, .ref 2, iv x2, iv x3, iv (zz s11 7 x4.toNat), iv x5]) (q39 83) rfl (Nat.le_of_ble_eq_true rfl) rfl ?_
          refine w_inc (p := 88) (ls' := [.ref 3, .ref 2, iv x2, iv x3, iv (zz s11 7 x4.toNat), iv (x5 + 1)]) (q39 85) rfl rfl rfl ?_
          refine w_goto (q39 88) ?_
          exact w
        · replace w := w.2 c15
          refine w_i1f (p := 73) (q39 70) rfl h14 c15 ?_
          refine w_il (p := 75) (q39 73) rfl rfl ?_
          exact w_ret (q39 75) rfl w
theorem w5n3_0 {d : Nat} {B : aH} {Q : aR → Prop} (hB : a_Can B) (x2 x3 : Int) (s : Nat → Nat → Int32) (l : Nat → Nat → Int64) (w : ((0 ≤ (zz s 3 4) ∧ (zz s 3 4) < 3001) ∧ ((3000 ≤ (zz s 3 4) → Q (.inl (some (iv (-1))), (mkH B s l))) ∧ ((zz s 3 4) < 3000 → (inR (x3 - x2) ∧ inR (10240 - (zz s 6 (zz s 3 4).toNat)) ∧ (((x3 - x2) ≤ (10240 - (zz s 6 (zz s 3 4).toNat)) → a_W d 5 42 [.ref 3, .ref 2, iv x2, iv x3, iv (zz s 6 (zz s 3 4).toNat), iv x2] [] (mkH B s l) Q) ∧ ((10240 - (zz s 6 (zz s 3 4).toNat)) < (x3 - x2) → Q (.inl (some (iv (-1))), (mkH B s l))))))))) : a_W d 5 0 [.ref 3, .ref 2, iv x2, iv x3, .retAddr 0, .retAddr 0] [] (mkH B s l) Q := by
  refine w_aln (p := 1) (q5 0) rfl rfl ?_
  refine w_gR (p := 4) (j := 1) (v := 6) (q5 1) rfl (r3 hB) (by decide) (f3_1 hB) ?_
  refine w_aln (p := 5) (q5 4) rfl rfl ?_
  refine w_gI (p := 8) (j := 4) (v := (zz s 3 4)) (q5 5) rfl (r3 hB) (by decide) (iv_zz s 3 4) ?_
  obtain ⟨o1, w⟩ := w
  refine w_ia (p := 9) (v := (zz s 6 (zz s 3 4).toNat)) (q5 8) rfl (r6 hB) (by decide) o1 (iv_zz s 6 (zz s 3 4).toNat) ?_
  refine w_is (p := 11) (ls' := [.ref 3, .ref 2, iv x2, iv x3, iv (zz s 6 (zz s 3 4).toNat), .retAddr 0]) (q5 9) rfl (Nat.le_of_ble_eq_true rfl) rfl ?_
  refine w_aln (p := 12) (q5 11) rfl rfl ?_
  refine w_gI (p := 15) (j := 4) (v := (zz s 3 4)) (q5 12) rfl (r3 hB) (by decide) (iv_zz s 3 4) ?_
  refine w_aln (p := 16) (q5 15) rfl rfl ?_
  refine w_gR (p := 19) (j := 2) (v := 7) (q5 16) rfl (r3 hB) (by decide) (f3_2 hB) ?_
  refine w_len (p := 20) (q5 19) rfl (r7 hB) (by decide) ?_
  by_cases c2 : 3000 ≤ (zz s 3 4)
  · replace w := w.1 c2
    refine w_i2t (q5 20) (inR_zz _ _ _) (by decide) c2 ?_
    refine w_ic (p := 38) (q5 37) rfl ?_
    exact w_ret (q5 38) rfl w
  · replace w := w.2 (Int.not_le.mp c2)
    refine w_i2f (p := 23) (q5 20) rfl (inR_zz _ _ _) (by decide) c2 ?_
    refine w_iln (p := 24) (q5 23) rfl rfl ?_
    refine w_iln (p := 25) (q5 24) rfl rfl ?_
    refine w_sub (p := 26) (q5 25) rfl ?_
    refine w_aln (p := 27) (q5 26) rfl rfl ?_
    refine w_gR (p := 30) (j := 0) (v := 5) (q5 27) rfl (r3 hB) (by decide) (f3_0 hB) ?_
    refine w_len (p := 31) (q5 30) rfl (r5 hB) (by decide) ?_
    refine w_il (p := 33) (q5 31) rfl rfl ?_
    refine w_sub (p := 34) (q5 33) rfl ?_
    obtain ⟨h3, w⟩ := w
    obtain ⟨h4, w⟩ := w
    by_cases c5 : (x3 - x2) ≤ (10240 - (zz s 6 (zz s 3 4).toNat))
    · replace w := w.1 c5
      refine w_i2t (q5 34) h3 h4 c5 ?_
      refine w_iln (p := 40) (q5 39) rfl rfl ?_
      refine w_is (p := 42) (ls' := [.ref 3, .ref 2, iv x2, iv x3, iv (zz s 6 (zz s 3 4).toNat), iv x2]) (q5 40) rfl (Nat.le_of_ble_eq_true rfl) rfl ?_
      exact w
    · replace w := w.2 (Int.not_le.mp c5)
      refine w_i2f (p := 37) (q5 34) rfl h3 h4 c5 ?_
      refine w_ic (p := 38) (q5 37) rfl ?_
      exact w_ret (q5 38) rfl w
theorem w5n3_42 {d : Nat} {B : aH} {Q : aR → Prop} (hB : a_Can B) (hd : 1 ≤ d) (x2 x3 x4 x5 : Int) (s : Nat → Nat → Int32) (l : Nat → Nat → Int64) (w : (inR x5 ∧ inR x3 ∧ ((x3 ≤ x5 → a_W (d - 1) 6 0 [.ref 2, iv x2, iv x3, .retAddr 0, .retAddr 0] [] (mkH B s l) (fun r => ∃ (v6 : Int) (s4 : Nat → Nat → Int32) (l5 : Nat → Nat → Int64), r = (.inl (some (iv v6)), mkH B s4 l5) ∧ ((0 ≤ v6 ∧ v6 < 256) ∧ ((0 ≤ (zz s4 3 4) ∧ (zz s4 3 4) < 3000) ∧ ((0 ≤ ((zz s4 3 4) + 1) ∧ ((zz s4 3 4) + 1) < 3001) ∧ Q (.inl (some (iv (((zz s4 3 4) + 1) - 1))), (mkH B (zu (zu (zu (zu s4 7 (zz s4 3 4).toNat (zz s4 4 v6.toNat)) 4 v6.toNat (zz s4 3 4)) 3 4 ((zz s4 3 4) + 1)) 6 ((zz s4 3 4) + 1).toNat ((x4 + x3) - x2)) l5))))))) ∧ (x5 < x3 → ((0 ≤ x5 ∧ x5 < 8000) ∧ ((0 ≤ ((x4 + x5) - x2) ∧ ((x4 + x5) - x2) < 10240) ∧ (-128 ≤ (zz s 2 x5.toNat) ∧ (zz s 2 x5.toNat) ≤ 127) ∧ a_W d 5 42 [.ref 3, .ref 2, iv x2, iv x3, iv x4, iv (x5 + 1)] [] (mkH B (zu s 5 ((x4 + x5) - x2).toNat (zz s 2 x5.toNat)) l) Q)))))) : a_W d 5 42 [.ref 3, .ref 2, iv x2, iv x3, iv x4, iv x5] [] (mkH B s l) Q := by
  refine w_il (p := 44) (q5 42) rfl rfl ?_
  refine w_iln (p := 45) (q5 44) rfl rfl ?_
  obtain ⟨h1, w⟩ := w
  obtain ⟨h2, w⟩ := w
  by_cases c3 : x3 ≤ x5
  · replace w := w.1 c3
    refine w_i2t (q5 45) h1 h2 c3 ?_
    refine w_aln (p := 71) (q5 70) rfl rfl ?_
    refine w_iln (p := 72) (q5 71) rfl rfl ?_
    refine w_iln (p := 73) (q5 72) rfl rfl ?_
    refine w_call (st := []) (as := [.ref 2, iv x2, iv x3]) (as' := [iv x3, iv x2, .ref 2]) (p := 76) (q5 73) rfl m6 (by decide) (a_ok_s rfl rfl) rfl rfl (Nat.le_of_ble_eq_true rfl) (by omega) rfl rfl (a_W.imp w ?_)
    rintro _ ⟨v6, s4, l5, rfl, w⟩
    refine ⟨some (iv v6), _, rfl, ?_⟩
    show a_W _ 5 76 [.ref 3, .ref 2, iv x2, iv x3, iv x4, iv x5] [iv v6] (mkH B s4 l5) _
    refine w_is (p := 78) (ls' := [.ref 3, .ref 2, iv x2, iv x3, iv x4, iv v6]) (q5 76) rfl (Nat.le_of_ble_eq_true rfl) rfl ?_
    refine w_aln (p := 79) (q5 78) rfl rfl ?_
    refine w_gR (p := 82) (j := 2) (v := 7) (q5 79) rfl (r3 hB) (by decide) (f3_2 hB) ?_
    refine w_aln (p := 83) (q5 82) rfl rfl ?_
    refine w_gI (p := 86) (j := 4) (v := (zz s4 3 4)) (q5 83) rfl (r3 hB) (by decide) (iv_zz s4 3 4) ?_
    refine w_aln (p := 87) (q5 86) rfl rfl ?_
    refine w_gR (p := 90) (j := 3) (v := 4) (q5 87) rfl (r3 hB) (by decide) (f3_3 hB) ?_
    refine w_il (p := 92) (q5 90) rfl rfl ?_
    obtain ⟨o7, w⟩ := w
    refine w_ia (p := 93) (v := (zz s4 4 v6.toNat)) (q5 92) rfl (r4 hB) (by decide) o7 (iv_zz s4 4 v6.toNat) ?_
    obtain ⟨o8, w⟩ := w
    refine w_ias (p := 94) (q5 93) rfl (r7 hB) (by decide) o8 ?_
    refine w_aln (p := 95) (q5 94) rfl rfl ?_
    refine w_gR (p := 98) (j := 3) (v := 4) (q5 95) rfl (r3 hB) (by decide) (f3_3 hB) ?_
    refine w_il (p := 100) (q5 98) rfl rfl ?_
    refine w_aln (p := 101) (q5 100) rfl rfl ?_
    refine w_gI (p := 104) (j := 4) (v := (zz s4 3 4)) (q5 101) rfl (r3 hB) (by decide) (iv_zz s4 3 4) ?_
    refine w_ias (p := 105) (q5 104) rfl (r4 hB) (by decide) o7 ?_
    refine w_aln (p := 106) (q5 105) rfl rfl ?_
    refine w_dupr (p := 107) (q5 106) rfl ?_
    refine w_gI (p := 110) (j := 4) (v := (zz s4 3 4)) (q5 107) rfl (r3 hB) (by decide) (iv_zz s4 3 4) ?_
    refine w_ic (p := 111) (q5 110) rfl ?_
    refine w_add (p := 112) (q5 111) rfl ?_
    refine w_pI (p := 115) (j := 4) (q5 112) rfl (r3 hB) (by decide) rfl ?_
    refine w_aln (p := 116) (q5 115) rfl rfl ?_
    refine w_gR (p := 119) (j := 1) (v := 6) (q5 116) rfl (r3 hB) (by decide) (f3_1 hB) ?_
    refine w_aln (p := 120) (q5 119) rfl rfl ?_
    refine w_gI (p := 123) (j := 4) (v := ((zz s4 3 4) + 1)) (q5 120) rfl (r3 hB) (by decide) rfl ?_
    refine w_il (p := 125) (q5 123) rfl rfl ?_
    refine w_iln (p := 126) (q5 125) rfl rfl ?_
    refine w_add (p := 127) (q5 126) rfl ?_
    refine w_iln (p := 128) (q5 127) rfl rfl ?_
    refine w_sub (p := 129) (q5 128) rfl ?_
    obtain ⟨o9, w⟩ := w
    refine w_ias (p := 130) (q5 129) rfl (r6 hB) (by decide) o9 ?_
    refine w_aln (p := 131) (q5 130) rfl rfl ?_
    refine w_gI (p := 134) (j := 4) (v := ((zz s4 3 4) + 1)) (q5 131) rfl (r3 hB) (by decide) rfl ?_
    refine w_ic (p := 135) (q5 134) rfl ?_
    refine w_sub (p := 136) (q5 135) rfl ?_
    exact w_ret (q5 136) rfl w
  · replace w := w.2 (Int.not_le.mp c3)
    refine w_i2f (p := 48) (q5 45) rfl h1 h2 c3 ?_
    refine w_aln (p := 49) (q5 48) rfl rfl ?_
    refine w_gR (p := 52) (j := 0) (v := 5) (q5 49) rfl (r3 hB) (by decide) (f3_0 hB) ?_
    refine w_il (p := 54) (q5 52) rfl rfl ?_
    refine w_il (p := 56) (q5 54) rfl rfl ?_
    refine w_add (p := 57) (q5 56) rfl ?_
    refine w_iln (p := 58) (q5 57) rfl rfl ?_
    refine w_sub (p := 59) (q5 58) rfl ?_
    refine w_aln (p := 60) (q5 59) rfl rfl ?_
    refine w_il (p := 62) (q5 60) rfl rfl ?_
    obtain ⟨o10, w⟩ := w
    refine w_ba (p := 63) (v := (zz s 2 x5.toNat)) (q5 62) rfl (r2 hB) (by decide) o10 (iv_zz s 2 x5.toNat) ?_
    obtain ⟨o11, w⟩ := w
    obtain ⟨o12, w⟩ := w
    refine w_bas (p := 64) (v := (zz s 2 x5.toNat)) (q5 63) rfl (r5 hB) (by decide) o11 (nar_b o12) ?_
    refine w_inc (p := 67) (ls' := [.ref 3, .ref 2, iv x2, iv x3, iv x4, iv (x5 + 1)]) (q5 64) rfl rfl rfl ?_
    refine w_goto (q5 67) ?_
    exact w
theorem x_find_loop3 {d : Nat} {B : aH} (hB : a_Can B) (hd : 1 ≤ d) (s : aZ) (l : aZL) (ns : List (List Int)) (hN : NT 3 5 6 7 4 10240 3000 ns s) (a e : Nat) (nm : List Int) (hr : a + nm.length = e) (he : e ≤ 8000) (hg : Sg (zz s 2) a nm) : ∀ (m : Nat) (x4 x5 : Int), m ≤ ns.length → x4 = lb ns (bkL nm) m → 0 ≤ x5 → x5 + m ≤ ns.length → a_W d 39 16 [.ref 3, .ref 2, iv (a : Int), iv (e : Int), iv x4, iv x5] [] (mkH B s l) (fun q => q = (.inl (some (iv (fd ns nm m))), mkH B s l)) := by
  obtain ⟨⟨a1, a2, a3⟩, a4, a5, a6, a7⟩ := hN
  have hmono := NTs.mono (show NTs 3 5 6 ns s from ⟨a1, a2, a3⟩)
  intro m
  induction m using Nat.strongRecOn with
  | _ m ih =>
    intro x4 x5 hm hx4 h0 h5
    rcases lb_cases ns (bkL nm) m with ⟨h1, h2⟩ | ⟨i, h1, h2, h3, h4⟩
    · rw [h2 nm rfl]
      rw [h1] at hx4
      subst hx4
      exact w39n3_16 hB hd _ _ _ x5 s l ⟨⟨by omega, by omega⟩, fun _ => rfl, fun _ => ⟨⟨by decide, by decide⟩, fun _ => rfl, fun h => absurd h (by decide)⟩⟩
    · rw [h4 nm rfl]
      rw [h2] at hx4
      subst hx4
      obtain ⟨b1, b2, b3⟩ := a3 i (by omega)
      have hi1 := (hmono ns.length (Nat.le_refl _)).2 (i + 1) (by omega)
      have hi0 := (hmono (i + 1) (by omega)).1
      have nx : ns.getD i [] ≠ nm → a_W d 39 16 [.ref 3, .ref 2, iv (a : Int), iv (e : Int), iv (zz s 7 i), iv (x5 + 1)] [] (mkH B s l) (fun q => q = (.inl (some (iv (fd ns nm (i + 1)))), mkH B s l)) := by
        intro hne
        have := ih i h1 (zz s 7 i) (x5 + 1) (by omega) (by rw [a5 i (by omega), h3]) (by omega) (by omega)
        unfold fd
        rw [if_neg hne]
        exact this
      refine w39n3_16 hB hd _ _ _ x5 s l ⟨⟨by omega, by omega⟩, fun h => absurd h (by omega), fun _ => ⟨⟨by omega, by omega⟩, fun h => absurd h (by omega), fun _ => ⟨⟨by omega, by omega⟩, ⟨by omega, by omega⟩, ?_⟩⟩⟩
      rw [show ((i : Int) + 1).toNat = i + 1 by omega, natc]
      refine ⟨⟨by omega, by omega⟩, ⟨by omega, by omega⟩, fun hl => ⟨⟨by omega, by omega⟩, nx (fun q => hl ?_)⟩, fun hl => ?_⟩
      · rw [q] at b1
        omega
      · have hlen : nm.length = (ns.getD i []).length := by omega
        have ez : zz s 6 i = (((zz s 6 i).toNat : Nat) : Int) := by omega
        rw [ez]
        refine a_W.imp (x_same5 hB s l a (zz s 6 i).toNat e nm (ns.getD i []) hlen hr he (by omega) hg b3) ?_
        rintro _ rfl
        refine ⟨_, s, l, rfl, ?_⟩
        by_cases hq : nm = ns.getD i []
        · rw [if_pos hq]
          refine ⟨⟨by decide, by decide⟩, fun h => absurd h (by decide), fun _ => ?_⟩
          unfold fd
          rw [if_pos hq.symm]
        · rw [if_neg hq]
          exact ⟨⟨by decide, by decide⟩, fun _ => ⟨⟨by omega, by omega⟩, nx (fun q => hq q.symm)⟩, fun h => absurd rfl h⟩
theorem x_find3 {d : Nat} {B : aH} (hB : a_Can B) (hd : 1 ≤ d) (s : aZ) (l : aZL) (ns : List (List Int)) (hN : NT 3 5 6 7 4 10240 3000 ns s) (a e : Nat) (nm : List Int) (hr : a + nm.length = e) (he : e ≤ 8000) (hg : Sg (zz s 2) a nm) : a_W d 39 0 [.ref 3, .ref 2, iv (a : Int), iv (e : Int), .retAddr 0, .retAddr 0] [] (mkH B s l) (fun q => q = (.inl (some (iv (fd ns nm ns.length))), mkH B s l)) := by
  refine w39n3_0 hB hd _ _ s l (a_W.imp (x_bucket hB s l a e nm hr he hg) ?_)
  rintro _ rfl
  have hb := bkL_rng nm
  refine ⟨_, s, l, rfl, hb, ?_⟩
  have e1 : ((bkL nm).toNat : Int) = bkL nm := by omega
  have h4 := hN.2.1 (bkL nm).toNat (by omega)
  rw [e1] at h4
  rw [h4]
  exact x_find_loop3 hB hd s l ns hN a e nm hr he hg ns.length _ 0 (Nat.le_refl _) rfl (by decide) (by omega)
/-- adding copies the letters -/
theorem x_add_loop3 {d : Nat} {B : aH} (hB : a_Can B) (hd : 1 ≤ d) (l : aZL) (Q : aR → Prop) (a e : Nat) (he : e ≤ 8000) (st : Nat) : ∀ (r : List Int) (p : Nat) (s : aZ), p + r.length = e → a ≤ p → st + (e - a) ≤ 10240 → Sg (zz s 2) p r → (∀ c ∈ r, -128 ≤ c ∧ c ≤ 127) → (∀ s2 : aZ, (∀ k, k ≠ 5 → s2 k = s k) → (∀ j, (j < st + (p - a) ∨ st + (e - a) ≤ j) → zz s2 5 j = zz s 5 j) → Sg (zz s2 5) (st + (p - a)) r → a_W d 5 42 [.ref 3, .ref 2, iv (a : Int), iv (e : Int), iv (st : Int), iv (e : Int)] [] (mkH B s2 l) Q) → a_W d 5 42 [.ref 3, .ref 2, iv (a : Int), iv (e : Int), iv (st : Int), iv (p : Int)] [] (mkH B s l) Q := by
  intro r
  induction r with
  | nil =>
    intro p s hp ha hst hg hr K
    have hp2 : p = e := by simpa using hp
    rw [hp2]
    refine K s (fun _ _ => rfl) (fun _ _ => rfl) (fun j hj => absurd hj (Nat.not_lt_zero _))
  | cons c r ih =>
    intro p s hp ha hst hg hr K
    have hp2 : p + 1 + r.length = e := by rw [List.length_cons] at hp; omega
    obtain ⟨g1, g2⟩ := hg.tl
    have hc := hr c List.mem_cons_self
    refine w5n3_42 hB hd _ _ _ _ s l ⟨⟨by omega, by omega⟩, ⟨by omega, by omega⟩, fun h => absurd h (by omega), fun _ => ⟨⟨by omega, by omega⟩, ⟨by omega, by omega⟩, ?_⟩⟩
    rw [natc, g1, show ((st : Int) + (p : Int) - (a : Int)).toNat = st + (p - a) by omega, show (p : Int) + 1 = ((p + 1 : Nat) : Int) by omega]
    refine ⟨hc, ih (p + 1) _ hp2 (by omega) hst ?_ (fun c2 h2 => hr c2 (List.mem_cons_of_mem _ h2)) ?_⟩
    · intro j hj
      rw [zz_ne _ _ _ _ _ _ (by omega)]
      exact g2 j hj
    · intro s2 k1 k2 k3
      refine K s2 (fun k hk => ?_) (fun j hj => ?_) (fun j hj => ?_)
      · rw [k1 k hk, zu_ne _ _ _ _ _ hk]
      · rw [k2 j (by omega), zz_ne _ _ _ _ _ _ (by omega)]
      · cases j with
        | zero =>
          show zz s2 5 (st + (p - a)) = c
          rw [k2 _ (by omega), zz_same _ _ _ ⟨by omega, by omega⟩]
        | succ j =>
          have := k3 j (by rw [List.length_cons] at hj; omega)
          rw [show st + (p - a) + (j + 1) = st + (p + 1 - a) + j by omega]
          exact this
theorem x_add3 {d : Nat} {B : aH} (hB : a_Can B) (hd : 1 ≤ d) (s : aZ) (l : aZL) (ns : List (List Int)) (hN : NT 3 5 6 7 4 10240 3000 ns s) (a e : Nat) (nm : List Int) (hr : a + nm.length = e) (he : e ≤ 8000) (hg : Sg (zz s 2) a nm) (hc : ∀ c ∈ nm, -128 ≤ c ∧ c ≤ 127) (hn : ns.length < 3000) (hl : zz s 6 ns.length + nm.length ≤ 10240) : a_W d 5 0 [.ref 3, .ref 2, iv (a : Int), iv (e : Int), .retAddr 0, .retAddr 0] [] (mkH B s l) (fun q => ∃ s2, q = (.inl (some (iv (ns.length : Int))), mkH B s2 l) ∧ NT 3 5 6 7 4 10240 3000 (ns ++ [nm]) s2 ∧ zz s2 6 (ns.length + 1) = zz s 6 ns.length + nm.length ∧ ∀ k, k ≠ 3 → k ≠ 5 → k ≠ 6 → k ≠ 7 → k ≠ 4 → s2 k = s k) := by
  have hN' := hN
  obtain ⟨⟨a1, a2, a3⟩, a4, a5, a6, a7⟩ := hN
  have hmono := NTs.mono (show NTs 3 5 6 ns s from ⟨a1, a2, a3⟩)
  have h0 := (hmono ns.length (Nat.le_refl _)).1
  have ec : (zz s 3 4).toNat = ns.length := by omega
  refine w5n3_0 hB _ _ s l ⟨⟨by omega, by omega⟩, fun h => absurd h (by omega), fun _ => ?_⟩
  rw [ec]
  refine ⟨⟨by omega, by omega⟩, ⟨by omega, by omega⟩, fun _ => ?_, fun h => absurd h (by omega)⟩
  have es : zz s 6 ns.length = (((zz s 6 ns.length).toNat : Nat) : Int) := by omega
  rw [es]
  refine x_add_loop3 hB hd l _ a e he (zz s 6 ns.length).toNat nm a s hr (Nat.le_refl _) (by omega) hg hc ?_
  intro s2 k1 k2 k3
  rw [Nat.sub_self, Nat.add_zero] at k2 k3
  have g2 : Sg (zz s2 2) a nm := fun j hj => (zz_of (k1 2 (by decide)) _).trans (hg j hj)
  refine w5n3_42 hB hd _ _ _ _ s2 l ⟨⟨by omega, by omega⟩, ⟨by omega, by omega⟩, fun _ => a_W.imp (x_bucket hB s2 l a e nm hr he g2) ?_, fun h => absurd h (by omega)⟩
  rintro _ rfl
  have hb := bkL_rng nm
  have eP : zz s2 3 4 = ns.length := (zz_of (k1 3 (by decide)) _).trans a1
  refine ⟨_, s2, l, rfl, hb, ⟨by omega, by omega⟩, ⟨by omega, by omega⟩, ?_⟩
  rw [eP, natc, show ((ns.length : Int) + 1).toNat = ns.length + 1 by omega]
  have hbn : ((bkL nm).toNat : Int) = bkL nm := by omega
  have eF : zz s2 4 (bkL nm).toNat = lb ns (bkL nm) ns.length := by
    rw [zz_of (k1 4 (by decide)), a4 _ (by omega), hbn]
  have rF : inR (zz s2 4 (bkL nm).toNat) := inR_zz _ _ _
  refine ⟨_, by rw [show (ns.length : Int) + 1 - 1 = ns.length by omega], ⟨⟨?_, ?_, ?_⟩, ?_, ?_, ?_, ?_⟩, ?_, ?_⟩
  · rw [zz_ne _ _ _ _ _ _ (by omega), zz_same _ _ _ ⟨by omega, by omega⟩, List.length_append]
    simp
  · rw [zz_ne _ _ _ _ _ _ (by omega), zz_ne _ _ _ _ _ _ (by omega), zz_ne _ _ _ _ _ _ (by omega), zz_ne _ _ _ _ _ _ (by omega), zz_of (k1 6 (by decide))]
    exact a2
  · intro i hi
    have eS : ∀ q, q ≤ ns.length → zz (zu (zu (zu (zu s2 7 ns.length (zz s2 4 (bkL nm).toNat)) 4 (bkL nm).toNat (ns.length : Int)) 3 4 ((ns.length : Int) + 1)) 6 (ns.length + 1) ((((zz s 6 ns.length).toNat : Int) + (e : Int)) - (a : Int))) 6 q = zz s 6 q := by
      intro q hq
      rw [zz_ne _ _ _ _ _ _ (by omega), zz_ne _ _ _ _ _ _ (by omega), zz_ne _ _ _ _ _ _ (by omega), zz_ne _ _ _ _ _ _ (by omega), zz_of (k1 6 (by decide))]
    have eL : ∀ q, zz (zu (zu (zu (zu s2 7 ns.length (zz s2 4 (bkL nm).toNat)) 4 (bkL nm).toNat (ns.length : Int)) 3 4 ((ns.length : Int) + 1)) 6 (ns.length + 1) ((((zz s 6 ns.length).toNat : Int) + (e : Int)) - (a : Int))) 5 q = zz s2 5 q := by
      intro q
      rw [zz_ne _ _ _ _ _ _ (by omega), zz_ne _ _ _ _ _ _ (by omega), zz_ne _ _ _ _ _ _ (by omega), zz_ne _ _ _ _ _ _ (by omega)]
    by_cases hin : i < ns.length
    · obtain ⟨b1, b2, b3⟩ := a3 i hin
      have m1 := (hmono ns.length (Nat.le_refl _)).2 (i + 1) (by omega)
      rw [eS i (by omega), eS (i + 1) (by omega), getD_app _ _ _ _ hin]
      refine ⟨b1, b2, fun j hj => ?_⟩
      rw [eL, k2 _ (by omega)]
      exact b3 j hj
    · have hil : i = ns.length := by
        rw [List.length_append] at hi
        simp at hi
        omega
      subst hil
      rw [eS _ (Nat.le_refl _), zz_same _ _ _ ⟨by omega, by omega⟩, getD_last]
      refine ⟨by omega, h0, fun j hj => ?_⟩
      rw [eL]
      exact k3 j hj
  · intro b hb2
    rw [zz_ne _ _ _ _ _ _ (by omega), zz_ne _ _ _ _ _ _ (by omega), List.length_append]
    show _ = lb (ns ++ [nm]) b (ns.length + 1)
    unfold lb
    rw [getD_last, lb_app _ _ _ _ (Nat.le_refl _)]
    by_cases hq : b = (bkL nm).toNat
    · rw [hq, zz_same _ _ _ ⟨by omega, by omega⟩, if_pos hbn.symm]
    · rw [zz_ne _ _ _ _ _ _ (by omega), zz_ne _ _ _ _ _ _ (by omega), zz_of (k1 4 (by decide)), a4 b hb2, if_neg (by omega)]
  · intro i hi
    rw [zz_ne _ _ _ _ _ _ (by omega), zz_ne _ _ _ _ _ _ (by omega), zz_ne _ _ _ _ _ _ (by omega)]
    by_cases hin : i < ns.length
    · rw [zz_ne _ _ _ _ _ _ (by omega), zz_of (k1 7 (by decide)), getD_app _ _ _ _ hin, lb_app _ _ _ _ (Nat.le_of_lt hin)]
      exact a5 i hin
    · have hil : i = ns.length := by
        rw [List.length_append] at hi
        simp at hi
        omega
      subst hil
      rw [zz_same _ _ _ rF, getD_last, lb_app _ _ _ _ (Nat.le_refl _)]
      exact eF
  · rw [List.length_append]
    simp
    omega
  · rw [List.length_append]
    show zz _ 6 (ns.length + 1) ≤ _
    rw [zz_same _ _ _ ⟨by omega, by omega⟩]
    omega
  · rw [zz_same _ _ _ ⟨by omega, by omega⟩]
    omega
  · intro k h1 h2 h3 h4 h5
    rw [zu_ne _ _ _ _ _ h3, zu_ne _ _ _ _ _ h1, zu_ne _ _ _ _ _ h5, zu_ne _ _ _ _ _ h4]
    exact k1 k h2
theorem w39n10_0 {d : Nat} {B : aH} {Q : aR → Prop} (hB : a_Can B) (hd : 1 ≤ d) (x2 x3 : Int) (s : Nat → Nat → Int32) (l : Nat → Nat → Int64) (w : a_W (d - 1) 6 0 [.ref 2, iv x2, iv x3, .retAddr 0, .retAddr 0] [] (mkH B s l) (fun r => ∃ (v3 : Int) (s1 : Nat → Nat → Int32) (l2 : Nat → Nat → Int64), r = (.inl (some (iv v3)), mkH B s1 l2) ∧ ((0 ≤ v3 ∧ v3 < 256) ∧ a_W d 39 16 [.ref 10, .ref 2, iv x2, iv x3, iv (zz s1 11 v3.toNat), iv 0] [] (mkH B s1 l2) Q))) : a_W d 39 0 [.ref 10, .ref 2, iv x2, iv x3, .retAddr 0, .retAddr 0] [] (mkH B s l) Q := by
  refine w_aln (p := 1) (q39 0) rfl rfl ?_
  refine w_gR (p := 4) (j := 3) (v := 11) (q39 1) rfl (r10 hB) (by decide) (f10_3 hB) ?_
  refine w_aln (p := 5) (q39 4) rfl rfl ?_
  refine w_iln (p := 6) (q39 5) rfl rfl ?_
  refine w_iln (p := 7) (q39 6) rfl rfl ?_
  refine w_call (st := [.ref 11]) (as := [.ref 2, iv x2, iv x3]) (as' := [iv x3, iv x2, .ref 2]) (p := 10) (q39 7) rfl m6 (by decide) (a_ok_s rfl rfl) rfl rfl (Nat.le_of_ble_eq_true rfl) (by omega) rfl rfl (a_W.imp w ?_)
  rintro _ ⟨v3, s1, l2, rfl, w⟩
  refine ⟨some (iv v3), _, rfl, ?_⟩
  show a_W _ 39 10 [.ref 10, .ref 2, iv x2, iv x3, .retAddr 0, .retAddr 0] [iv v3, .ref 11] (mkH B s1 l2) _
  obtain ⟨o4, w⟩ := w
  refine w_ia (p := 11) (v := (zz s1 11 v3.toNat)) (q39 10) rfl (r11 hB) (by decide) o4 (iv_zz s1 11 v3.toNat) ?_
  refine w_is (p := 13) (ls' := [.ref 10, .ref 2, iv x2, iv x3, iv (zz s1 11 v3.toNat), .retAddr 0]) (q39 11) rfl (Nat.le_of_ble_eq_true rfl) rfl ?_
  refine w_ic (p := 14) (q39 13) rfl ?_
  refine w_is (p := 16) (ls' := [.ref 10, .ref 2, iv x2, iv x3, iv (zz s1 11 v3.toNat), iv 0]) (q39 14) rfl (Nat.le_of_ble_eq_true rfl) rfl ?_
  exact w
theorem w39n10_16 {d : Nat} {B : aH} {Q : aR → Prop} (hB : a_Can B) (hd : 1 ≤ d) (x2 x3 x4 x5 : Int) (s : Nat → Nat → Int32) (l : Nat → Nat → Int64) (w : (inR x5 ∧ (((zz s 10 4) ≤ x5 → Q (.inl (some (iv (-1))), (mkH B s l))) ∧ (x5 < (zz s 10 4) → (inR x4 ∧ ((x4 < 0 → Q (.inl (some (iv (-1))), (mkH B s l))) ∧ (0 ≤ x4 → ((0 ≤ (x4 + 1) ∧ (x4 + 1) < 35) ∧ ((0 ≤ x4 ∧ x4 < 35) ∧ (inR ((zz s 13 (x4 + 1).toNat) - (zz s 13 x4.toNat)) ∧ inR (x3 - x2) ∧ ((((zz s 13 (x4 + 1).toNat) - (zz s 13 x4.toNat)) ≠ (x3 - x2) → ((0 ≤ x4 ∧ x4 < 34) ∧ a_W d 39 16 [.ref 10, .ref 2, iv x2, iv x3, iv (zz s 14 x4.toNat), iv (x5 + 1)] [] (mkH B s l) Q)) ∧ (((zz s 13 (x4 + 1).toNat) - (zz s 13 x4.toNat)) = (x3 - x2) → a_W (d - 1) 40 0 [.ref 2, iv x2, iv x3, .ref 12, iv (zz s 13 x4.toNat), .retAddr 0] [] (mkH B s l) (fun r => ∃ (v13 : Int) (s11 : Nat → Nat → Int32) (l12 : Nat → Nat → Int64), r = (.inl (some (iv v13)), mkH B s11 l12) ∧ (inR v13 ∧ ((v13 = 0 → ((0 ≤ x4 ∧ x4 < 34) ∧ a_W d 39 16 [.ref 10, .ref 2, iv x2, iv x3, iv (zz s11 14 x4.toNat), iv (x5 + 1)] [] (mkH B s11 l12) Q)) ∧ (v13 ≠ 0 → Q (.inl (some (iv x4)), (mkH B s11 l12)))))))))))))))))) : a_W d 39 16 [.ref 10, .ref 2, iv x2, iv x3, iv x4, iv x5] [] (mkH B s l) Q := by
  refine w_il (p := 18) (q39 16) rfl rfl ?_
  refine w_aln (p := 19) (q39 18) rfl rfl ?_
  refine w_gI (p := 22) (j := 4) (v := (zz s 10 4)) (q39 19) rfl (r10 hB) (by decide) (iv_zz s 10 4) ?_
  obtain ⟨h1, w⟩ := w
  by_cases c2 : (zz s 10 4) ≤ x5
  · replace w := w.1 c2
    refine w_i2t (q39 22) h1 (inR_zz _ _ _) c2 ?_
    refine w_ic (p := 92) (q39 91) rfl ?_
    exact w_ret (q39 92) rfl w
  · replace w := w.2 (Int.not_le.mp c2)
    refine w_i2f (p := 25) (q39 22) rfl h1 (inR_zz _ _ _) c2 ?_
    refine w_il (p := 27) (q39 25) rfl rfl ?_
    obtain ⟨h3, w⟩ := w
    by_cases c4 : x4 < 0
    · replace w := w.1 c4
      refine w_i1t (q39 27) h3 c4 ?_
      refine w_ic (p := 92) (q39 91) rfl ?_
      exact w_ret (q39 92) rfl w
    · replace w := w.2 (Int.not_lt.mp c4)
      refine w_i1f (p := 30) (q39 27) rfl h3 c4 ?_
      refine w_aln (p := 31) (q39 30) rfl rfl ?_
      refine w_gR (p := 34) (j := 1) (v := 13) (q39 31) rfl (r10 hB) (by decide) (f10_1 hB) ?_
      refine w_il (p := 36) (q39 34) rfl rfl ?_
      refine w_ic (p := 37) (q39 36) rfl ?_
      refine w_add (p := 38) (q39 37) rfl ?_
      obtain ⟨o5, w⟩ := w
      refine w_ia (p := 39) (v := (zz s 13 (x4 + 1).toNat)) (q39 38) rfl (r13 hB) (by decide) o5 (iv_zz s 13 (x4 + 1).toNat) ?_
      refine w_aln (p := 40) (q39 39) rfl rfl ?_
      refine w_gR (p := 43) (j := 1) (v := 13) (q39 40) rfl (r10 hB) (by decide) (f10_1 hB) ?_
      refine w_il (p := 45) (q39 43) rfl rfl ?_
      obtain ⟨o6, w⟩ := w
      refine w_ia (p := 46) (v := (zz s 13 x4.toNat)) (q39 45) rfl (r13 hB) (by decide) o6 (iv_zz s 13 x4.toNat) ?_
      refine w_sub (p := 47) (q39 46) rfl ?_
      refine w_iln (p := 48) (q39 47) rfl rfl ?_
      refine w_iln (p := 49) (q39 48) rfl rfl ?_
      refine w_sub (p := 50) (q39 49) rfl ?_
      obtain ⟨h7, w⟩ := w
      obtain ⟨h8, w⟩ := w
      by_cases c9 : ((zz s 13 (x4 + 1).toNat) - (zz s 13 x4.toNat)) ≠ (x3 - x2)
      · replace w := w.1 c9
        refine w_i2t (q39 50) h7 h8 c9 ?_
        refine w_aln (p := 77) (q39 76) rfl rfl ?_
        refine w_gR (p := 80) (j := 2) (v := 14) (q39 77) rfl (r10 hB) (by decide) (f10_2 hB) ?_
        refine w_il (p := 82) (q39 80) rfl rfl ?_
        obtain ⟨o10, w⟩ := w
        refine w_ia (p := 83) (v := (zz s 14 x4.toNat)) (q39 82) rfl (r14 hB) (by decide) o10 (iv_zz s 14 x4.toNat) ?_
        refine w_is (p := 85) (ls' := [.ref 10, .ref 2, iv x2, iv x3, iv (zz s 14 x4.toNat), iv x5]) (q39 83) rfl (Nat.le_of_ble_eq_true rfl) rfl ?_
        refine w_inc (p := 88) (ls' := [.ref 10, .ref 2, iv x2, iv x3, iv (zz s 14 x4.toNat), iv (x5 + 1)]) (q39 85) rfl rfl rfl ?_
        refine w_goto (q39 88) ?_
        exact w
      · replace w := w.2 (Decidable.not_not.mp c9)
        refine w_i2f (p := 53) (q39 50) rfl h7 h8 c9 ?_
        refine w_aln (p := 54) (q39 53) rfl rfl ?_
        refine w_iln (p := 55) (q39 54) rfl rfl ?_
        refine w_iln (p := 56) (q39 55) rfl rfl ?_
        refine w_aln (p := 57) (q39 56) rfl rfl ?_
        refine w_gR (p := 60) (j := 0) (v := 12) (q39 57) rfl (r10 hB) (by decide) (f10_0 hB) ?_
        refine w_aln (p := 61) (q39 60) rfl rfl ?_
        refine w_gR (p := 64) (j := 1) (v := 13) (q39 61) rfl (r10 hB) (by decide) (f10_1 hB) ?_
        refine w_il (p := 66) (q39 64) rfl rfl ?_
        refine w_ia (p := 67) (v := (zz s 13 x4.toNat)) (q39 66) rfl (r13 hB) (by decide) o6 (iv_zz s 13 x4.toNat) ?_
        refine w_call (st := []) (as := [.ref 2, iv x2, iv x3, .ref 12, iv (zz s 13 x4.toNat)]) (as' := [iv (zz s 13 x4.toNat), .ref 12, iv x3, iv x2, .ref 2]) (p := 70) (q39 67) rfl m40 (by decide) (a_ok_s rfl rfl) rfl rfl (Nat.le_of_ble_eq_true rfl) (by omega) rfl rfl (a_W.imp w ?_)
        rintro _ ⟨v13, s11, l12, rfl, w⟩
        refine ⟨some (iv v13), _, rfl, ?_⟩
        show a_W _ 39 70 [.ref 10, .ref 2, iv x2, iv x3, iv x4, iv x5] [iv v13] (mkH B s11 l12) _
        obtain ⟨h14, w⟩ := w
        by_cases c15 : v13 = 0
        · replace w := w.1 c15
          refine w_i1t (q39 70) h14 c15 ?_
          refine w_aln (p := 77) (q39 76) rfl rfl ?_
          refine w_gR (p := 80) (j := 2) (v := 14) (q39 77) rfl (r10 hB) (by decide) (f10_2 hB) ?_
          refine w_il (p := 82) (q39 80) rfl rfl ?_
          obtain ⟨o16, w⟩ := w
          refine w_ia (p := 83) (v := (zz s11 14 x4.toNat)) (q39 82) rfl (r14 hB) (by decide) o16 (iv_zz s11 14 x4.toNat) ?_
          refine w_is (p := 85) (ls' := [.ref 10, .ref 2, iv x2, iv x3, iv (zz s11 14 x4.toNat), iv x5]) (q39 83) rfl (Nat.le_of_ble_eq_true rfl) rfl ?_
          refine w_inc (p := 88) (ls' := [.ref 10, .ref 2, iv x2, iv x3, iv (zz s11 14 x4.toNat), iv (x5 + 1)]) (q39 85) rfl rfl rfl ?_
          refine w_goto (q39 88) ?_
          exact w
        · replace w := w.2 c15
          refine w_i1f (p := 73) (q39 70) rfl h14 c15 ?_
          refine w_il (p := 75) (q39 73) rfl rfl ?_
          exact w_ret (q39 75) rfl w
theorem w5n10_0 {d : Nat} {B : aH} {Q : aR → Prop} (hB : a_Can B) (x2 x3 : Int) (s : Nat → Nat → Int32) (l : Nat → Nat → Int64) (w : ((0 ≤ (zz s 10 4) ∧ (zz s 10 4) < 35) ∧ ((34 ≤ (zz s 10 4) → Q (.inl (some (iv (-1))), (mkH B s l))) ∧ ((zz s 10 4) < 34 → (inR (x3 - x2) ∧ inR (816 - (zz s 13 (zz s 10 4).toNat)) ∧ (((x3 - x2) ≤ (816 - (zz s 13 (zz s 10 4).toNat)) → a_W d 5 42 [.ref 10, .ref 2, iv x2, iv x3, iv (zz s 13 (zz s 10 4).toNat), iv x2] [] (mkH B s l) Q) ∧ ((816 - (zz s 13 (zz s 10 4).toNat)) < (x3 - x2) → Q (.inl (some (iv (-1))), (mkH B s l))))))))) : a_W d 5 0 [.ref 10, .ref 2, iv x2, iv x3, .retAddr 0, .retAddr 0] [] (mkH B s l) Q := by
  refine w_aln (p := 1) (q5 0) rfl rfl ?_
  refine w_gR (p := 4) (j := 1) (v := 13) (q5 1) rfl (r10 hB) (by decide) (f10_1 hB) ?_
  refine w_aln (p := 5) (q5 4) rfl rfl ?_
  refine w_gI (p := 8) (j := 4) (v := (zz s 10 4)) (q5 5) rfl (r10 hB) (by decide) (iv_zz s 10 4) ?_
  obtain ⟨o1, w⟩ := w
  refine w_ia (p := 9) (v := (zz s 13 (zz s 10 4).toNat)) (q5 8) rfl (r13 hB) (by decide) o1 (iv_zz s 13 (zz s 10 4).toNat) ?_
  refine w_is (p := 11) (ls' := [.ref 10, .ref 2, iv x2, iv x3, iv (zz s 13 (zz s 10 4).toNat), .retAddr 0]) (q5 9) rfl (Nat.le_of_ble_eq_true rfl) rfl ?_
  refine w_aln (p := 12) (q5 11) rfl rfl ?_
  refine w_gI (p := 15) (j := 4) (v := (zz s 10 4)) (q5 12) rfl (r10 hB) (by decide) (iv_zz s 10 4) ?_
  refine w_aln (p := 16) (q5 15) rfl rfl ?_
  refine w_gR (p := 19) (j := 2) (v := 14) (q5 16) rfl (r10 hB) (by decide) (f10_2 hB) ?_
  refine w_len (p := 20) (q5 19) rfl (r14 hB) (by decide) ?_
  by_cases c2 : 34 ≤ (zz s 10 4)
  · replace w := w.1 c2
    refine w_i2t (q5 20) (inR_zz _ _ _) (by decide) c2 ?_
    refine w_ic (p := 38) (q5 37) rfl ?_
    exact w_ret (q5 38) rfl w
  · replace w := w.2 (Int.not_le.mp c2)
    refine w_i2f (p := 23) (q5 20) rfl (inR_zz _ _ _) (by decide) c2 ?_
    refine w_iln (p := 24) (q5 23) rfl rfl ?_
    refine w_iln (p := 25) (q5 24) rfl rfl ?_
    refine w_sub (p := 26) (q5 25) rfl ?_
    refine w_aln (p := 27) (q5 26) rfl rfl ?_
    refine w_gR (p := 30) (j := 0) (v := 12) (q5 27) rfl (r10 hB) (by decide) (f10_0 hB) ?_
    refine w_len (p := 31) (q5 30) rfl (r12 hB) (by decide) ?_
    refine w_il (p := 33) (q5 31) rfl rfl ?_
    refine w_sub (p := 34) (q5 33) rfl ?_
    obtain ⟨h3, w⟩ := w
    obtain ⟨h4, w⟩ := w
    by_cases c5 : (x3 - x2) ≤ (816 - (zz s 13 (zz s 10 4).toNat))
    · replace w := w.1 c5
      refine w_i2t (q5 34) h3 h4 c5 ?_
      refine w_iln (p := 40) (q5 39) rfl rfl ?_
      refine w_is (p := 42) (ls' := [.ref 10, .ref 2, iv x2, iv x3, iv (zz s 13 (zz s 10 4).toNat), iv x2]) (q5 40) rfl (Nat.le_of_ble_eq_true rfl) rfl ?_
      exact w
    · replace w := w.2 (Int.not_le.mp c5)
      refine w_i2f (p := 37) (q5 34) rfl h3 h4 c5 ?_
      refine w_ic (p := 38) (q5 37) rfl ?_
      exact w_ret (q5 38) rfl w
theorem w5n10_42 {d : Nat} {B : aH} {Q : aR → Prop} (hB : a_Can B) (hd : 1 ≤ d) (x2 x3 x4 x5 : Int) (s : Nat → Nat → Int32) (l : Nat → Nat → Int64) (w : (inR x5 ∧ inR x3 ∧ ((x3 ≤ x5 → a_W (d - 1) 6 0 [.ref 2, iv x2, iv x3, .retAddr 0, .retAddr 0] [] (mkH B s l) (fun r => ∃ (v6 : Int) (s4 : Nat → Nat → Int32) (l5 : Nat → Nat → Int64), r = (.inl (some (iv v6)), mkH B s4 l5) ∧ ((0 ≤ v6 ∧ v6 < 256) ∧ ((0 ≤ (zz s4 10 4) ∧ (zz s4 10 4) < 34) ∧ ((0 ≤ ((zz s4 10 4) + 1) ∧ ((zz s4 10 4) + 1) < 35) ∧ Q (.inl (some (iv (((zz s4 10 4) + 1) - 1))), (mkH B (zu (zu (zu (zu s4 14 (zz s4 10 4).toNat (zz s4 11 v6.toNat)) 11 v6.toNat (zz s4 10 4)) 10 4 ((zz s4 10 4) + 1)) 13 ((zz s4 10 4) + 1).toNat ((x4 + x3) - x2)) l5))))))) ∧ (x5 < x3 → ((0 ≤ x5 ∧ x5 < 8000) ∧ ((0 ≤ ((x4 + x5) - x2) ∧ ((x4 + x5) - x2) < 816) ∧ (-128 ≤ (zz s 2 x5.toNat) ∧ (zz s 2 x5.toNat) ≤ 127) ∧ a_W d 5 42 [.ref 10, .ref 2, iv x2, iv x3, iv x4, iv (x5 + 1)] [] (mkH B (zu s 12 ((x4 + x5) - x2).toNat (zz s 2 x5.toNat)) l) Q)))))) : a_W d 5 42 [.ref 10, .ref 2, iv x2, iv x3, iv x4, iv x5] [] (mkH B s l) Q := by
  refine w_il (p := 44) (q5 42) rfl rfl ?_
  refine w_iln (p := 45) (q5 44) rfl rfl ?_
  obtain ⟨h1, w⟩ := w
  obtain ⟨h2, w⟩ := w
  by_cases c3 : x3 ≤ x5
  · replace w := w.1 c3
    refine w_i2t (q5 45) h1 h2 c3 ?_
    refine w_aln (p := 71) (q5 70) rfl rfl ?_
    refine w_iln (p := 72) (q5 71) rfl rfl ?_
    refine w_iln (p := 73) (q5 72) rfl rfl ?_
    refine w_call (st := []) (as := [.ref 2, iv x2, iv x3]) (as' := [iv x3, iv x2, .ref 2]) (p := 76) (q5 73) rfl m6 (by decide) (a_ok_s rfl rfl) rfl rfl (Nat.le_of_ble_eq_true rfl) (by omega) rfl rfl (a_W.imp w ?_)
    rintro _ ⟨v6, s4, l5, rfl, w⟩
    refine ⟨some (iv v6), _, rfl, ?_⟩
    show a_W _ 5 76 [.ref 10, .ref 2, iv x2, iv x3, iv x4, iv x5] [iv v6] (mkH B s4 l5) _
    refine w_is (p := 78) (ls' := [.ref 10, .ref 2, iv x2, iv x3, iv x4, iv v6]) (q5 76) rfl (Nat.le_of_ble_eq_true rfl) rfl ?_
    refine w_aln (p := 79) (q5 78) rfl rfl ?_
    refine w_gR (p := 82) (j := 2) (v := 14) (q5 79) rfl (r10 hB) (by decide) (f10_2 hB) ?_
    refine w_aln (p := 83) (q5 82) rfl rfl ?_
    refine w_gI (p := 86) (j := 4) (v := (zz s4 10 4)) (q5 83) rfl (r10 hB) (by decide) (iv_zz s4 10 4) ?_
    refine w_aln (p := 87) (q5 86) rfl rfl ?_
    refine w_gR (p := 90) (j := 3) (v := 11) (q5 87) rfl (r10 hB) (by decide) (f10_3 hB) ?_
    refine w_il (p := 92) (q5 90) rfl rfl ?_
    obtain ⟨o7, w⟩ := w
    refine w_ia (p := 93) (v := (zz s4 11 v6.toNat)) (q5 92) rfl (r11 hB) (by decide) o7 (iv_zz s4 11 v6.toNat) ?_
    obtain ⟨o8, w⟩ := w
    refine w_ias (p := 94) (q5 93) rfl (r14 hB) (by decide) o8 ?_
    refine w_aln (p := 95) (q5 94) rfl rfl ?_
    refine w_gR (p := 98) (j := 3) (v := 11) (q5 95) rfl (r10 hB) (by decide) (f10_3 hB) ?_
    refine w_il (p := 100) (q5 98) rfl rfl ?_
    refine w_aln (p := 101) (q5 100) rfl rfl ?_
    refine w_gI (p := 104) (j := 4) (v := (zz s4 10 4)) (q5 101) rfl (r10 hB) (by decide) (iv_zz s4 10 4) ?_
    refine w_ias (p := 105) (q5 104) rfl (r11 hB) (by decide) o7 ?_
    refine w_aln (p := 106) (q5 105) rfl rfl ?_
    refine w_dupr (p := 107) (q5 106) rfl ?_
    refine w_gI (p := 110) (j := 4) (v := (zz s4 10 4)) (q5 107) rfl (r10 hB) (by decide) (iv_zz s4 10 4) ?_
    refine w_ic (p := 111) (q5 110) rfl ?_
    refine w_add (p := 112) (q5 111) rfl ?_
    refine w_pI (p := 115) (j := 4) (q5 112) rfl (r10 hB) (by decide) rfl ?_
    refine w_aln (p := 116) (q5 115) rfl rfl ?_
    refine w_gR (p := 119) (j := 1) (v := 13) (q5 116) rfl (r10 hB) (by decide) (f10_1 hB) ?_
    refine w_aln (p := 120) (q5 119) rfl rfl ?_
    refine w_gI (p := 123) (j := 4) (v := ((zz s4 10 4) + 1)) (q5 120) rfl (r10 hB) (by decide) rfl ?_
    refine w_il (p := 125) (q5 123) rfl rfl ?_
    refine w_iln (p := 126) (q5 125) rfl rfl ?_
    refine w_add (p := 127) (q5 126) rfl ?_
    refine w_iln (p := 128) (q5 127) rfl rfl ?_
    refine w_sub (p := 129) (q5 128) rfl ?_
    obtain ⟨o9, w⟩ := w
    refine w_ias (p := 130) (q5 129) rfl (r13 hB) (by decide) o9 ?_
    refine w_aln (p := 131) (q5 130) rfl rfl ?_
    refine w_gI (p := 134) (j := 4) (v := ((zz s4 10 4) + 1)) (q5 131) rfl (r10 hB) (by decide) rfl ?_
    refine w_ic (p := 135) (q5 134) rfl ?_
    refine w_sub (p := 136) (q5 135) rfl ?_
    exact w_ret (q5 136) rfl w
  · replace w := w.2 (Int.not_le.mp c3)
    refine w_i2f (p := 48) (q5 45) rfl h1 h2 c3 ?_
    refine w_aln (p := 49) (q5 48) rfl rfl ?_
    refine w_gR (p := 52) (j := 0) (v := 12) (q5 49) rfl (r10 hB) (by decide) (f10_0 hB) ?_
    refine w_il (p := 54) (q5 52) rfl rfl ?_
    refine w_il (p := 56) (q5 54) rfl rfl ?_
    refine w_add (p := 57) (q5 56) rfl ?_
    refine w_iln (p := 58) (q5 57) rfl rfl ?_
    refine w_sub (p := 59) (q5 58) rfl ?_
    refine w_aln (p := 60) (q5 59) rfl rfl ?_
    refine w_il (p := 62) (q5 60) rfl rfl ?_
    obtain ⟨o10, w⟩ := w
    refine w_ba (p := 63) (v := (zz s 2 x5.toNat)) (q5 62) rfl (r2 hB) (by decide) o10 (iv_zz s 2 x5.toNat) ?_
    obtain ⟨o11, w⟩ := w
    obtain ⟨o12, w⟩ := w
    refine w_bas (p := 64) (v := (zz s 2 x5.toNat)) (q5 63) rfl (r12 hB) (by decide) o11 (nar_b o12) ?_
    refine w_inc (p := 67) (ls' := [.ref 10, .ref 2, iv x2, iv x3, iv x4, iv (x5 + 1)]) (q5 64) rfl rfl rfl ?_
    refine w_goto (q5 67) ?_
    exact w
theorem x_find_loop10 {d : Nat} {B : aH} (hB : a_Can B) (hd : 1 ≤ d) (s : aZ) (l : aZL) (ns : List (List Int)) (hN : NT 10 12 13 14 11 816 34 ns s) (a e : Nat) (nm : List Int) (hr : a + nm.length = e) (he : e ≤ 8000) (hg : Sg (zz s 2) a nm) : ∀ (m : Nat) (x4 x5 : Int), m ≤ ns.length → x4 = lb ns (bkL nm) m → 0 ≤ x5 → x5 + m ≤ ns.length → a_W d 39 16 [.ref 10, .ref 2, iv (a : Int), iv (e : Int), iv x4, iv x5] [] (mkH B s l) (fun q => q = (.inl (some (iv (fd ns nm m))), mkH B s l)) := by
  obtain ⟨⟨a1, a2, a3⟩, a4, a5, a6, a7⟩ := hN
  have hmono := NTs.mono (show NTs 10 12 13 ns s from ⟨a1, a2, a3⟩)
  intro m
  induction m using Nat.strongRecOn with
  | _ m ih =>
    intro x4 x5 hm hx4 h0 h5
    rcases lb_cases ns (bkL nm) m with ⟨h1, h2⟩ | ⟨i, h1, h2, h3, h4⟩
    · rw [h2 nm rfl]
      rw [h1] at hx4
      subst hx4
      exact w39n10_16 hB hd _ _ _ x5 s l ⟨⟨by omega, by omega⟩, fun _ => rfl, fun _ => ⟨⟨by decide, by decide⟩, fun _ => rfl, fun h => absurd h (by decide)⟩⟩
    · rw [h4 nm rfl]
      rw [h2] at hx4
      subst hx4
      obtain ⟨b1, b2, b3⟩ := a3 i (by omega)
      have hi1 := (hmono ns.length (Nat.le_refl _)).2 (i + 1) (by omega)
      have hi0 := (hmono (i + 1) (by omega)).1
      have nx : ns.getD i [] ≠ nm → a_W d 39 16 [.ref 10, .ref 2, iv (a : Int), iv (e : Int), iv (zz s 14 i), iv (x5 + 1)] [] (mkH B s l) (fun q => q = (.inl (some (iv (fd ns nm (i + 1)))), mkH B s l)) := by
        intro hne
        have := ih i h1 (zz s 14 i) (x5 + 1) (by omega) (by rw [a5 i (by omega), h3]) (by omega) (by omega)
        unfold fd
        rw [if_neg hne]
        exact this
      refine w39n10_16 hB hd _ _ _ x5 s l ⟨⟨by omega, by omega⟩, fun h => absurd h (by omega), fun _ => ⟨⟨by omega, by omega⟩, fun h => absurd h (by omega), fun _ => ⟨⟨by omega, by omega⟩, ⟨by omega, by omega⟩, ?_⟩⟩⟩
      rw [show ((i : Int) + 1).toNat = i + 1 by omega, natc]
      refine ⟨⟨by omega, by omega⟩, ⟨by omega, by omega⟩, fun hl => ⟨⟨by omega, by omega⟩, nx (fun q => hl ?_)⟩, fun hl => ?_⟩
      · rw [q] at b1
        omega
      · have hlen : nm.length = (ns.getD i []).length := by omega
        have ez : zz s 13 i = (((zz s 13 i).toNat : Nat) : Int) := by omega
        rw [ez]
        refine a_W.imp (x_same12 hB s l a (zz s 13 i).toNat e nm (ns.getD i []) hlen hr he (by omega) hg b3) ?_
        rintro _ rfl
        refine ⟨_, s, l, rfl, ?_⟩
        by_cases hq : nm = ns.getD i []
        · rw [if_pos hq]
          refine ⟨⟨by decide, by decide⟩, fun h => absurd h (by decide), fun _ => ?_⟩
          unfold fd
          rw [if_pos hq.symm]
        · rw [if_neg hq]
          exact ⟨⟨by decide, by decide⟩, fun _ => ⟨⟨by omega, by omega⟩, nx (fun q => hq q.symm)⟩, fun h => absurd rfl h⟩
theorem x_find10 {d : Nat} {B : aH} (hB : a_Can B) (hd : 1 ≤ d) (s : aZ) (l : aZL) (ns : List (List Int)) (hN : NT 10 12 13 14 11 816 34 ns s) (a e : Nat) (nm : List Int) (hr : a + nm.length = e) (he : e ≤ 8000) (hg : Sg (zz s 2) a nm) : a_W d 39 0 [.ref 10, .ref 2, iv (a : Int), iv (e : Int), .retAddr 0, .retAddr 0] [] (mkH B s l) (fun q => q = (.inl (some (iv (fd ns nm ns.length))), mkH B s l)) := by
  refine w39n10_0 hB hd _ _ s l (a_W.imp (x_bucket hB s l a e nm hr he hg) ?_)
  rintro _ rfl
  have hb := bkL_rng nm
  refine ⟨_, s, l, rfl, hb, ?_⟩
  have e1 : ((bkL nm).toNat : Int) = bkL nm := by omega
  have h4 := hN.2.1 (bkL nm).toNat (by omega)
  rw [e1] at h4
  rw [h4]
  exact x_find_loop10 hB hd s l ns hN a e nm hr he hg ns.length _ 0 (Nat.le_refl _) rfl (by decide) (by omega)
/-- adding copies the letters -/
theorem x_add_loop10 {d : Nat} {B : aH} (hB : a_Can B) (hd : 1 ≤ d) (l : aZL) (Q : aR → Prop) (a e : Nat) (he : e ≤ 8000) (st : Nat) : ∀ (r : List Int) (p : Nat) (s : aZ), p + r.length = e → a ≤ p → st + (e - a) ≤ 816 → Sg (zz s 2) p r → (∀ c ∈ r, -128 ≤ c ∧ c ≤ 127) → (∀ s2 : aZ, (∀ k, k ≠ 12 → s2 k = s k) → (∀ j, (j < st + (p - a) ∨ st + (e - a) ≤ j) → zz s2 12 j = zz s 12 j) → Sg (zz s2 12) (st + (p - a)) r → a_W d 5 42 [.ref 10, .ref 2, iv (a : Int), iv (e : Int), iv (st : Int), iv (e : Int)] [] (mkH B s2 l) Q) → a_W d 5 42 [.ref 10, .ref 2, iv (a : Int), iv (e : Int), iv (st : Int), iv (p : Int)] [] (mkH B s l) Q := by
  intro r
  induction r with
  | nil =>
    intro p s hp ha hst hg hr K
    have hp2 : p = e := by simpa using hp
    rw [hp2]
    refine K s (fun _ _ => rfl) (fun _ _ => rfl) (fun j hj => absurd hj (Nat.not_lt_zero _))
  | cons c r ih =>
    intro p s hp ha hst hg hr K
    have hp2 : p + 1 + r.length = e := by rw [List.length_cons] at hp; omega
    obtain ⟨g1, g2⟩ := hg.tl
    have hc := hr c List.mem_cons_self
    refine w5n10_42 hB hd _ _ _ _ s l ⟨⟨by omega, by omega⟩, ⟨by omega, by omega⟩, fun h => absurd h (by omega), fun _ => ⟨⟨by omega, by omega⟩, ⟨by omega, by omega⟩, ?_⟩⟩
    rw [natc, g1, show ((st : Int) + (p : Int) - (a : Int)).toNat = st + (p - a) by omega, show (p : Int) + 1 = ((p + 1 : Nat) : Int) by omega]
    refine ⟨hc, ih (p + 1) _ hp2 (by omega) hst ?_ (fun c2 h2 => hr c2 (List.mem_cons_of_mem _ h2)) ?_⟩
    · intro j hj
      rw [zz_ne _ _ _ _ _ _ (by omega)]
      exact g2 j hj
    · intro s2 k1 k2 k3
      refine K s2 (fun k hk => ?_) (fun j hj => ?_) (fun j hj => ?_)
      · rw [k1 k hk, zu_ne _ _ _ _ _ hk]
      · rw [k2 j (by omega), zz_ne _ _ _ _ _ _ (by omega)]
      · cases j with
        | zero =>
          show zz s2 12 (st + (p - a)) = c
          rw [k2 _ (by omega), zz_same _ _ _ ⟨by omega, by omega⟩]
        | succ j =>
          have := k3 j (by rw [List.length_cons] at hj; omega)
          rw [show st + (p - a) + (j + 1) = st + (p + 1 - a) + j by omega]
          exact this
theorem x_add10 {d : Nat} {B : aH} (hB : a_Can B) (hd : 1 ≤ d) (s : aZ) (l : aZL) (ns : List (List Int)) (hN : NT 10 12 13 14 11 816 34 ns s) (a e : Nat) (nm : List Int) (hr : a + nm.length = e) (he : e ≤ 8000) (hg : Sg (zz s 2) a nm) (hc : ∀ c ∈ nm, -128 ≤ c ∧ c ≤ 127) (hn : ns.length < 34) (hl : zz s 13 ns.length + nm.length ≤ 816) : a_W d 5 0 [.ref 10, .ref 2, iv (a : Int), iv (e : Int), .retAddr 0, .retAddr 0] [] (mkH B s l) (fun q => ∃ s2, q = (.inl (some (iv (ns.length : Int))), mkH B s2 l) ∧ NT 10 12 13 14 11 816 34 (ns ++ [nm]) s2 ∧ zz s2 13 (ns.length + 1) = zz s 13 ns.length + nm.length ∧ ∀ k, k ≠ 10 → k ≠ 12 → k ≠ 13 → k ≠ 14 → k ≠ 11 → s2 k = s k) := by
  have hN' := hN
  obtain ⟨⟨a1, a2, a3⟩, a4, a5, a6, a7⟩ := hN
  have hmono := NTs.mono (show NTs 10 12 13 ns s from ⟨a1, a2, a3⟩)
  have h0 := (hmono ns.length (Nat.le_refl _)).1
  have ec : (zz s 10 4).toNat = ns.length := by omega
  refine w5n10_0 hB _ _ s l ⟨⟨by omega, by omega⟩, fun h => absurd h (by omega), fun _ => ?_⟩
  rw [ec]
  refine ⟨⟨by omega, by omega⟩, ⟨by omega, by omega⟩, fun _ => ?_, fun h => absurd h (by omega)⟩
  have es : zz s 13 ns.length = (((zz s 13 ns.length).toNat : Nat) : Int) := by omega
  rw [es]
  refine x_add_loop10 hB hd l _ a e he (zz s 13 ns.length).toNat nm a s hr (Nat.le_refl _) (by omega) hg hc ?_
  intro s2 k1 k2 k3
  rw [Nat.sub_self, Nat.add_zero] at k2 k3
  have g2 : Sg (zz s2 2) a nm := fun j hj => (zz_of (k1 2 (by decide)) _).trans (hg j hj)
  refine w5n10_42 hB hd _ _ _ _ s2 l ⟨⟨by omega, by omega⟩, ⟨by omega, by omega⟩, fun _ => a_W.imp (x_bucket hB s2 l a e nm hr he g2) ?_, fun h => absurd h (by omega)⟩
  rintro _ rfl
  have hb := bkL_rng nm
  have eP : zz s2 10 4 = ns.length := (zz_of (k1 10 (by decide)) _).trans a1
  refine ⟨_, s2, l, rfl, hb, ⟨by omega, by omega⟩, ⟨by omega, by omega⟩, ?_⟩
  rw [eP, natc, show ((ns.length : Int) + 1).toNat = ns.length + 1 by omega]
  have hbn : ((bkL nm).toNat : Int) = bkL nm := by omega
  have eF : zz s2 11 (bkL nm).toNat = lb ns (bkL nm) ns.length := by
    rw [zz_of (k1 11 (by decide)), a4 _ (by omega), hbn]
  have rF : inR (zz s2 11 (bkL nm).toNat) := inR_zz _ _ _
  refine ⟨_, by rw [show (ns.length : Int) + 1 - 1 = ns.length by omega], ⟨⟨?_, ?_, ?_⟩, ?_, ?_, ?_, ?_⟩, ?_, ?_⟩
  · rw [zz_ne _ _ _ _ _ _ (by omega), zz_same _ _ _ ⟨by omega, by omega⟩, List.length_append]
    simp
  · rw [zz_ne _ _ _ _ _ _ (by omega), zz_ne _ _ _ _ _ _ (by omega), zz_ne _ _ _ _ _ _ (by omega), zz_ne _ _ _ _ _ _ (by omega), zz_of (k1 13 (by decide))]
    exact a2
  · intro i hi
    have eS : ∀ q, q ≤ ns.length → zz (zu (zu (zu (zu s2 14 ns.length (zz s2 11 (bkL nm).toNat)) 11 (bkL nm).toNat (ns.length : Int)) 10 4 ((ns.length : Int) + 1)) 13 (ns.length + 1) ((((zz s 13 ns.length).toNat : Int) + (e : Int)) - (a : Int))) 13 q = zz s 13 q := by
      intro q hq
      rw [zz_ne _ _ _ _ _ _ (by omega), zz_ne _ _ _ _ _ _ (by omega), zz_ne _ _ _ _ _ _ (by omega), zz_ne _ _ _ _ _ _ (by omega), zz_of (k1 13 (by decide))]
    have eL : ∀ q, zz (zu (zu (zu (zu s2 14 ns.length (zz s2 11 (bkL nm).toNat)) 11 (bkL nm).toNat (ns.length : Int)) 10 4 ((ns.length : Int) + 1)) 13 (ns.length + 1) ((((zz s 13 ns.length).toNat : Int) + (e : Int)) - (a : Int))) 12 q = zz s2 12 q := by
      intro q
      rw [zz_ne _ _ _ _ _ _ (by omega), zz_ne _ _ _ _ _ _ (by omega), zz_ne _ _ _ _ _ _ (by omega), zz_ne _ _ _ _ _ _ (by omega)]
    by_cases hin : i < ns.length
    · obtain ⟨b1, b2, b3⟩ := a3 i hin
      have m1 := (hmono ns.length (Nat.le_refl _)).2 (i + 1) (by omega)
      rw [eS i (by omega), eS (i + 1) (by omega), getD_app _ _ _ _ hin]
      refine ⟨b1, b2, fun j hj => ?_⟩
      rw [eL, k2 _ (by omega)]
      exact b3 j hj
    · have hil : i = ns.length := by
        rw [List.length_append] at hi
        simp at hi
        omega
      subst hil
      rw [eS _ (Nat.le_refl _), zz_same _ _ _ ⟨by omega, by omega⟩, getD_last]
      refine ⟨by omega, h0, fun j hj => ?_⟩
      rw [eL]
      exact k3 j hj
  · intro b hb2
    rw [zz_ne _ _ _ _ _ _ (by omega), zz_ne _ _ _ _ _ _ (by omega), List.length_append]
    show _ = lb (ns ++ [nm]) b (ns.length + 1)
    unfold lb
    rw [getD_last, lb_app _ _ _ _ (Nat.le_refl _)]
    by_cases hq : b = (bkL nm).toNat
    · rw [hq, zz_same _ _ _ ⟨by omega, by omega⟩, if_pos hbn.symm]
    · rw [zz_ne _ _ _ _ _ _ (by omega), zz_ne _ _ _ _ _ _ (by omega), zz_of (k1 11 (by decide)), a4 b hb2, if_neg (by omega)]
  · intro i hi
    rw [zz_ne _ _ _ _ _ _ (by omega), zz_ne _ _ _ _ _ _ (by omega), zz_ne _ _ _ _ _ _ (by omega)]
    by_cases hin : i < ns.length
    · rw [zz_ne _ _ _ _ _ _ (by omega), zz_of (k1 14 (by decide)), getD_app _ _ _ _ hin, lb_app _ _ _ _ (Nat.le_of_lt hin)]
      exact a5 i hin
    · have hil : i = ns.length := by
        rw [List.length_append] at hi
        simp at hi
        omega
      subst hil
      rw [zz_same _ _ _ rF, getD_last, lb_app _ _ _ _ (Nat.le_refl _)]
      exact eF
  · rw [List.length_append]
    simp
    omega
  · rw [List.length_append]
    show zz _ 13 (ns.length + 1) ≤ _
    rw [zz_same _ _ _ ⟨by omega, by omega⟩]
    omega
  · rw [zz_same _ _ _ ⟨by omega, by omega⟩]
    omega
  · intro k h1 h2 h3 h4 h5
    rw [zu_ne _ _ _ _ _ h3, zu_ne _ _ _ _ _ h1, zu_ne _ _ _ _ _ h5, zu_ne _ _ _ _ _ h4]
    exact k1 k h2
theorem w39n26_0 {d : Nat} {B : aH} {Q : aR → Prop} (hB : a_Can B) (hd : 1 ≤ d) (x2 x3 : Int) (s : Nat → Nat → Int32) (l : Nat → Nat → Int64) (w : a_W (d - 1) 6 0 [.ref 2, iv x2, iv x3, .retAddr 0, .retAddr 0] [] (mkH B s l) (fun r => ∃ (v3 : Int) (s1 : Nat → Nat → Int32) (l2 : Nat → Nat → Int64), r = (.inl (some (iv v3)), mkH B s1 l2) ∧ ((0 ≤ v3 ∧ v3 < 256) ∧ a_W d 39 16 [.ref 26, .ref 2, iv x2, iv x3, iv (zz s1 27 v3.toNat), iv 0] [] (mkH B s1 l2) Q))) : a_W d 39 0 [.ref 26, .ref 2, iv x2, iv x3, .retAddr 0, .retAddr 0] [] (mkH B s l) Q := by
  refine w_aln (p := 1) (q39 0) rfl rfl ?_
  refine w_gR (p := 4) (j := 3) (v := 27) (q39 1) rfl (r26 hB) (by decide) (f26_3 hB) ?_
  refine w_aln (p := 5) (q39 4) rfl rfl ?_
  refine w_iln (p := 6) (q39 5) rfl rfl ?_
  refine w_iln (p := 7) (q39 6) rfl rfl ?_
  refine w_call (st := [.ref 27]) (as := [.ref 2, iv x2, iv x3]) (as' := [iv x3, iv x2, .ref 2]) (p := 10) (q39 7) rfl m6 (by decide) (a_ok_s rfl rfl) rfl rfl (Nat.le_of_ble_eq_true rfl) (by omega) rfl rfl (a_W.imp w ?_)
  rintro _ ⟨v3, s1, l2, rfl, w⟩
  refine ⟨some (iv v3), _, rfl, ?_⟩
  show a_W _ 39 10 [.ref 26, .ref 2, iv x2, iv x3, .retAddr 0, .retAddr 0] [iv v3, .ref 27] (mkH B s1 l2) _
  obtain ⟨o4, w⟩ := w
  refine w_ia (p := 11) (v := (zz s1 27 v3.toNat)) (q39 10) rfl (r27 hB) (by decide) o4 (iv_zz s1 27 v3.toNat) ?_
  refine w_is (p := 13) (ls' := [.ref 26, .ref 2, iv x2, iv x3, iv (zz s1 27 v3.toNat), .retAddr 0]) (q39 11) rfl (Nat.le_of_ble_eq_true rfl) rfl ?_
  refine w_ic (p := 14) (q39 13) rfl ?_
  refine w_is (p := 16) (ls' := [.ref 26, .ref 2, iv x2, iv x3, iv (zz s1 27 v3.toNat), iv 0]) (q39 14) rfl (Nat.le_of_ble_eq_true rfl) rfl ?_
  exact w
theorem w39n26_16 {d : Nat} {B : aH} {Q : aR → Prop} (hB : a_Can B) (hd : 1 ≤ d) (x2 x3 x4 x5 : Int) (s : Nat → Nat → Int32) (l : Nat → Nat → Int64) (w : (inR x5 ∧ (((zz s 26 4) ≤ x5 → Q (.inl (some (iv (-1))), (mkH B s l))) ∧ (x5 < (zz s 26 4) → (inR x4 ∧ ((x4 < 0 → Q (.inl (some (iv (-1))), (mkH B s l))) ∧ (0 ≤ x4 → ((0 ≤ (x4 + 1) ∧ (x4 + 1) < 113) ∧ ((0 ≤ x4 ∧ x4 < 113) ∧ (inR ((zz s 29 (x4 + 1).toNat) - (zz s 29 x4.toNat)) ∧ inR (x3 - x2) ∧ ((((zz s 29 (x4 + 1).toNat) - (zz s 29 x4.toNat)) ≠ (x3 - x2) → ((0 ≤ x4 ∧ x4 < 112) ∧ a_W d 39 16 [.ref 26, .ref 2, iv x2, iv x3, iv (zz s 30 x4.toNat), iv (x5 + 1)] [] (mkH B s l) Q)) ∧ (((zz s 29 (x4 + 1).toNat) - (zz s 29 x4.toNat)) = (x3 - x2) → a_W (d - 1) 40 0 [.ref 2, iv x2, iv x3, .ref 28, iv (zz s 29 x4.toNat), .retAddr 0] [] (mkH B s l) (fun r => ∃ (v13 : Int) (s11 : Nat → Nat → Int32) (l12 : Nat → Nat → Int64), r = (.inl (some (iv v13)), mkH B s11 l12) ∧ (inR v13 ∧ ((v13 = 0 → ((0 ≤ x4 ∧ x4 < 112) ∧ a_W d 39 16 [.ref 26, .ref 2, iv x2, iv x3, iv (zz s11 30 x4.toNat), iv (x5 + 1)] [] (mkH B s11 l12) Q)) ∧ (v13 ≠ 0 → Q (.inl (some (iv x4)), (mkH B s11 l12)))))))))))))))))) : a_W d 39 16 [.ref 26, .ref 2, iv x2, iv x3, iv x4, iv x5] [] (mkH B s l) Q := by
  refine w_il (p := 18) (q39 16) rfl rfl ?_
  refine w_aln (p := 19) (q39 18) rfl rfl ?_
  refine w_gI (p := 22) (j := 4) (v := (zz s 26 4)) (q39 19) rfl (r26 hB) (by decide) (iv_zz s 26 4) ?_
  obtain ⟨h1, w⟩ := w
  by_cases c2 : (zz s 26 4) ≤ x5
  · replace w := w.1 c2
    refine w_i2t (q39 22) h1 (inR_zz _ _ _) c2 ?_
    refine w_ic (p := 92) (q39 91) rfl ?_
    exact w_ret (q39 92) rfl w
  · replace w := w.2 (Int.not_le.mp c2)
    refine w_i2f (p := 25) (q39 22) rfl h1 (inR_zz _ _ _) c2 ?_
    refine w_il (p := 27) (q39 25) rfl rfl ?_
    obtain ⟨h3, w⟩ := w
    by_cases c4 : x4 < 0
    · replace w := w.1 c4
      refine w_i1t (q39 27) h3 c4 ?_
      refine w_ic (p := 92) (q39 91) rfl ?_
      exact w_ret (q39 92) rfl w
    · replace w := w.2 (Int.not_lt.mp c4)
      refine w_i1f (p := 30) (q39 27) rfl h3 c4 ?_
      refine w_aln (p := 31) (q39 30) rfl rfl ?_
      refine w_gR (p := 34) (j := 1) (v := 29) (q39 31) rfl (r26 hB) (by decide) (f26_1 hB) ?_
      refine w_il (p := 36) (q39 34) rfl rfl ?_
      refine w_ic (p := 37) (q39 36) rfl ?_
      refine w_add (p := 38) (q39 37) rfl ?_
      obtain ⟨o5, w⟩ := w
      refine w_ia (p := 39) (v := (zz s 29 (x4 + 1).toNat)) (q39 38) rfl (r29 hB) (by decide) o5 (iv_zz s 29 (x4 + 1).toNat) ?_
      refine w_aln (p := 40) (q39 39) rfl rfl ?_
      refine w_gR (p := 43) (j := 1) (v := 29) (q39 40) rfl (r26 hB) (by decide) (f26_1 hB) ?_
      refine w_il (p := 45) (q39 43) rfl rfl ?_
      obtain ⟨o6, w⟩ := w
      refine w_ia (p := 46) (v := (zz s 29 x4.toNat)) (q39 45) rfl (r29 hB) (by decide) o6 (iv_zz s 29 x4.toNat) ?_
      refine w_sub (p := 47) (q39 46) rfl ?_
      refine w_iln (p := 48) (q39 47) rfl rfl ?_
      refine w_iln (p := 49) (q39 48) rfl rfl ?_
      refine w_sub (p := 50) (q39 49) rfl ?_
      obtain ⟨h7, w⟩ := w
      obtain ⟨h8, w⟩ := w
      by_cases c9 : ((zz s 29 (x4 + 1).toNat) - (zz s 29 x4.toNat)) ≠ (x3 - x2)
      · replace w := w.1 c9
        refine w_i2t (q39 50) h7 h8 c9 ?_
        refine w_aln (p := 77) (q39 76) rfl rfl ?_
        refine w_gR (p := 80) (j := 2) (v := 30) (q39 77) rfl (r26 hB) (by decide) (f26_2 hB) ?_
        refine w_il (p := 82) (q39 80) rfl rfl ?_
        obtain ⟨o10, w⟩ := w
        refine w_ia (p := 83) (v := (zz s 30 x4.toNat)) (q39 82) rfl (r30 hB) (by decide) o10 (iv_zz s 30 x4.toNat) ?_
        refine w_is (p := 85) (ls' := [.ref 26, .ref 2, iv x2, iv x3, iv (zz s 30 x4.toNat), iv x5]) (q39 83) rfl (Nat.le_of_ble_eq_true rfl) rfl ?_
        refine w_inc (p := 88) (ls' := [.ref 26, .ref 2, iv x2, iv x3, iv (zz s 30 x4.toNat), iv (x5 + 1)]) (q39 85) rfl rfl rfl ?_
        refine w_goto (q39 88) ?_
        exact w
      · replace w := w.2 (Decidable.not_not.mp c9)
        refine w_i2f (p := 53) (q39 50) rfl h7 h8 c9 ?_
        refine w_aln (p := 54) (q39 53) rfl rfl ?_
        refine w_iln (p := 55) (q39 54) rfl rfl ?_
        refine w_iln (p := 56) (q39 55) rfl rfl ?_
        refine w_aln (p := 57) (q39 56) rfl rfl ?_
        refine w_gR (p := 60) (j := 0) (v := 28) (q39 57) rfl (r26 hB) (by decide) (f26_0 hB) ?_
        refine w_aln (p := 61) (q39 60) rfl rfl ?_
        refine w_gR (p := 64) (j := 1) (v := 29) (q39 61) rfl (r26 hB) (by decide) (f26_1 hB) ?_
        refine w_il (p := 66) (q39 64) rfl rfl ?_
        refine w_ia (p := 67) (v := (zz s 29 x4.toNat)) (q39 66) rfl (r29 hB) (by decide) o6 (iv_zz s 29 x4.toNat) ?_
        refine w_call (st := []) (as := [.ref 2, iv x2, iv x3, .ref 28, iv (zz s 29 x4.toNat)]) (as' := [iv (zz s 29 x4.toNat), .ref 28, iv x3, iv x2, .ref 2]) (p := 70) (q39 67) rfl m40 (by decide) (a_ok_s rfl rfl) rfl rfl (Nat.le_of_ble_eq_true rfl) (by omega) rfl rfl (a_W.imp w ?_)
        rintro _ ⟨v13, s11, l12, rfl, w⟩
        refine ⟨some (iv v13), _, rfl, ?_⟩
        show a_W _ 39 70 [.ref 26, .ref 2, iv x2, iv x3, iv x4, iv x5] [iv v13] (mkH B s11 l12) _
        obtain ⟨h14, w⟩ := w
        by_cases c15 : v13 = 0
        · replace w := w.1 c15
          refine w_i1t (q39 70) h14 c15 ?_
          refine w_aln (p := 77) (q39 76) rfl rfl ?_
          refine w_gR (p := 80) (j := 2) (v := 30) (q39 77) rfl (r26 hB) (by decide) (f26_2 hB) ?_
          refine w_il (p := 82) (q39 80) rfl rfl ?_
          obtain ⟨o16, w⟩ := w
          refine w_ia (p := 83) (v := (zz s11 30 x4.toNat)) (q39 82) rfl (r30 hB) (by decide) o16 (iv_zz s11 30 x4.toNat) ?_
          refine w_is (p := 85) (ls' := [.ref 26, .ref 2, iv x2, iv x3, iv (zz s11 30 x4.toNat), iv x5]) (q39 83) rfl (Nat.le_of_ble_eq_true rfl) rfl ?_
          refine w_inc (p := 88) (ls' := [.ref 26, .ref 2, iv x2, iv x3, iv (zz s11 30 x4.toNat), iv (x5 + 1)]) (q39 85) rfl rfl rfl ?_
          refine w_goto (q39 88) ?_
          exact w
        · replace w := w.2 c15
          refine w_i1f (p := 73) (q39 70) rfl h14 c15 ?_
          refine w_il (p := 75) (q39 73) rfl rfl ?_
          exact w_ret (q39 75) rfl w
theorem w5n26_0 {d : Nat} {B : aH} {Q : aR → Prop} (hB : a_Can B) (x2 x3 : Int) (s : Nat → Nat → Int32) (l : Nat → Nat → Int64) (w : ((0 ≤ (zz s 26 4) ∧ (zz s 26 4) < 113) ∧ ((112 ≤ (zz s 26 4) → Q (.inl (some (iv (-1))), (mkH B s l))) ∧ ((zz s 26 4) < 112 → (inR (x3 - x2) ∧ inR (2688 - (zz s 29 (zz s 26 4).toNat)) ∧ (((x3 - x2) ≤ (2688 - (zz s 29 (zz s 26 4).toNat)) → a_W d 5 42 [.ref 26, .ref 2, iv x2, iv x3, iv (zz s 29 (zz s 26 4).toNat), iv x2] [] (mkH B s l) Q) ∧ ((2688 - (zz s 29 (zz s 26 4).toNat)) < (x3 - x2) → Q (.inl (some (iv (-1))), (mkH B s l))))))))) : a_W d 5 0 [.ref 26, .ref 2, iv x2, iv x3, .retAddr 0, .retAddr 0] [] (mkH B s l) Q := by
  refine w_aln (p := 1) (q5 0) rfl rfl ?_
  refine w_gR (p := 4) (j := 1) (v := 29) (q5 1) rfl (r26 hB) (by decide) (f26_1 hB) ?_
  refine w_aln (p := 5) (q5 4) rfl rfl ?_
  refine w_gI (p := 8) (j := 4) (v := (zz s 26 4)) (q5 5) rfl (r26 hB) (by decide) (iv_zz s 26 4) ?_
  obtain ⟨o1, w⟩ := w
  refine w_ia (p := 9) (v := (zz s 29 (zz s 26 4).toNat)) (q5 8) rfl (r29 hB) (by decide) o1 (iv_zz s 29 (zz s 26 4).toNat) ?_
  refine w_is (p := 11) (ls' := [.ref 26, .ref 2, iv x2, iv x3, iv (zz s 29 (zz s 26 4).toNat), .retAddr 0]) (q5 9) rfl (Nat.le_of_ble_eq_true rfl) rfl ?_
  refine w_aln (p := 12) (q5 11) rfl rfl ?_
  refine w_gI (p := 15) (j := 4) (v := (zz s 26 4)) (q5 12) rfl (r26 hB) (by decide) (iv_zz s 26 4) ?_
  refine w_aln (p := 16) (q5 15) rfl rfl ?_
  refine w_gR (p := 19) (j := 2) (v := 30) (q5 16) rfl (r26 hB) (by decide) (f26_2 hB) ?_
  refine w_len (p := 20) (q5 19) rfl (r30 hB) (by decide) ?_
  by_cases c2 : 112 ≤ (zz s 26 4)
  · replace w := w.1 c2
    refine w_i2t (q5 20) (inR_zz _ _ _) (by decide) c2 ?_
    refine w_ic (p := 38) (q5 37) rfl ?_
    exact w_ret (q5 38) rfl w
  · replace w := w.2 (Int.not_le.mp c2)
    refine w_i2f (p := 23) (q5 20) rfl (inR_zz _ _ _) (by decide) c2 ?_
    refine w_iln (p := 24) (q5 23) rfl rfl ?_
    refine w_iln (p := 25) (q5 24) rfl rfl ?_
    refine w_sub (p := 26) (q5 25) rfl ?_
    refine w_aln (p := 27) (q5 26) rfl rfl ?_
    refine w_gR (p := 30) (j := 0) (v := 28) (q5 27) rfl (r26 hB) (by decide) (f26_0 hB) ?_
    refine w_len (p := 31) (q5 30) rfl (r28 hB) (by decide) ?_
    refine w_il (p := 33) (q5 31) rfl rfl ?_
    refine w_sub (p := 34) (q5 33) rfl ?_
    obtain ⟨h3, w⟩ := w
    obtain ⟨h4, w⟩ := w
    by_cases c5 : (x3 - x2) ≤ (2688 - (zz s 29 (zz s 26 4).toNat))
    · replace w := w.1 c5
      refine w_i2t (q5 34) h3 h4 c5 ?_
      refine w_iln (p := 40) (q5 39) rfl rfl ?_
      refine w_is (p := 42) (ls' := [.ref 26, .ref 2, iv x2, iv x3, iv (zz s 29 (zz s 26 4).toNat), iv x2]) (q5 40) rfl (Nat.le_of_ble_eq_true rfl) rfl ?_
      exact w
    · replace w := w.2 (Int.not_le.mp c5)
      refine w_i2f (p := 37) (q5 34) rfl h3 h4 c5 ?_
      refine w_ic (p := 38) (q5 37) rfl ?_
      exact w_ret (q5 38) rfl w
theorem w5n26_42 {d : Nat} {B : aH} {Q : aR → Prop} (hB : a_Can B) (hd : 1 ≤ d) (x2 x3 x4 x5 : Int) (s : Nat → Nat → Int32) (l : Nat → Nat → Int64) (w : (inR x5 ∧ inR x3 ∧ ((x3 ≤ x5 → a_W (d - 1) 6 0 [.ref 2, iv x2, iv x3, .retAddr 0, .retAddr 0] [] (mkH B s l) (fun r => ∃ (v6 : Int) (s4 : Nat → Nat → Int32) (l5 : Nat → Nat → Int64), r = (.inl (some (iv v6)), mkH B s4 l5) ∧ ((0 ≤ v6 ∧ v6 < 256) ∧ ((0 ≤ (zz s4 26 4) ∧ (zz s4 26 4) < 112) ∧ ((0 ≤ ((zz s4 26 4) + 1) ∧ ((zz s4 26 4) + 1) < 113) ∧ Q (.inl (some (iv (((zz s4 26 4) + 1) - 1))), (mkH B (zu (zu (zu (zu s4 30 (zz s4 26 4).toNat (zz s4 27 v6.toNat)) 27 v6.toNat (zz s4 26 4)) 26 4 ((zz s4 26 4) + 1)) 29 ((zz s4 26 4) + 1).toNat ((x4 + x3) - x2)) l5))))))) ∧ (x5 < x3 → ((0 ≤ x5 ∧ x5 < 8000) ∧ ((0 ≤ ((x4 + x5) - x2) ∧ ((x4 + x5) - x2) < 2688) ∧ (-128 ≤ (zz s 2 x5.toNat) ∧ (zz s 2 x5.toNat) ≤ 127) ∧ a_W d 5 42 [.ref 26, .ref 2, iv x2, iv x3, iv x4, iv (x5 + 1)] [] (mkH B (zu s 28 ((x4 + x5) - x2).toNat (zz s 2 x5.toNat)) l) Q)))))) : a_W d 5 42 [.ref 26, .ref 2, iv x2, iv x3, iv x4, iv x5] [] (mkH B s l) Q := by
  refine w_il (p := 44) (q5 42) rfl rfl ?_
  refine w_iln (p := 45) (q5 44) rfl rfl ?_
  obtain ⟨h1, w⟩ := w
  obtain ⟨h2, w⟩ := w
  by_cases c3 : x3 ≤ x5
  · replace w := w.1 c3
    refine w_i2t (q5 45) h1 h2 c3 ?_
    refine w_aln (p := 71) (q5 70) rfl rfl ?_
    refine w_iln (p := 72) (q5 71) rfl rfl ?_
    refine w_iln (p := 73) (q5 72) rfl rfl ?_
    refine w_call (st := []) (as := [.ref 2, iv x2, iv x3]) (as' := [iv x3, iv x2, .ref 2]) (p := 76) (q5 73) rfl m6 (by decide) (a_ok_s rfl rfl) rfl rfl (Nat.le_of_ble_eq_true rfl) (by omega) rfl rfl (a_W.imp w ?_)
    rintro _ ⟨v6, s4, l5, rfl, w⟩
    refine ⟨some (iv v6), _, rfl, ?_⟩
    show a_W _ 5 76 [.ref 26, .ref 2, iv x2, iv x3, iv x4, iv x5] [iv v6] (mkH B s4 l5) _
    refine w_is (p := 78) (ls' := [.ref 26, .ref 2, iv x2, iv x3, iv x4, iv v6]) (q5 76) rfl (Nat.le_of_ble_eq_true rfl) rfl ?_
    refine w_aln (p := 79) (q5 78) rfl rfl ?_
    refine w_gR (p := 82) (j := 2) (v := 30) (q5 79) rfl (r26 hB) (by decide) (f26_2 hB) ?_
    refine w_aln (p := 83) (q5 82) rfl rfl ?_
    refine w_gI (p := 86) (j := 4) (v := (zz s4 26 4)) (q5 83) rfl (r26 hB) (by decide) (iv_zz s4 26 4) ?_
    refine w_aln (p := 87) (q5 86) rfl rfl ?_
    refine w_gR (p := 90) (j := 3) (v := 27) (q5 87) rfl (r26 hB) (by decide) (f26_3 hB) ?_
    refine w_il (p := 92) (q5 90) rfl rfl ?_
    obtain ⟨o7, w⟩ := w
    refine w_ia (p := 93) (v := (zz s4 27 v6.toNat)) (q5 92) rfl (r27 hB) (by decide) o7 (iv_zz s4 27 v6.toNat) ?_
    obtain ⟨o8, w⟩ := w
    refine w_ias (p := 94) (q5 93) rfl (r30 hB) (by decide) o8 ?_
    refine w_aln (p := 95) (q5 94) rfl rfl ?_
    refine w_gR (p := 98) (j := 3) (v := 27) (q5 95) rfl (r26 hB) (by decide) (f26_3 hB) ?_
    refine w_il (p := 100) (q5 98) rfl rfl ?_
    refine w_aln (p := 101) (q5 100) rfl rfl ?_
    refine w_gI (p := 104) (j := 4) (v := (zz s4 26 4)) (q5 101) rfl (r26 hB) (by decide) (iv_zz s4 26 4) ?_
    refine w_ias (p := 105) (q5 104) rfl (r27 hB) (by decide) o7 ?_
    refine w_aln (p := 106) (q5 105) rfl rfl ?_
    refine w_dupr (p := 107) (q5 106) rfl ?_
    refine w_gI (p := 110) (j := 4) (v := (zz s4 26 4)) (q5 107) rfl (r26 hB) (by decide) (iv_zz s4 26 4) ?_
    refine w_ic (p := 111) (q5 110) rfl ?_
    refine w_add (p := 112) (q5 111) rfl ?_
    refine w_pI (p := 115) (j := 4) (q5 112) rfl (r26 hB) (by decide) rfl ?_
    refine w_aln (p := 116) (q5 115) rfl rfl ?_
    refine w_gR (p := 119) (j := 1) (v := 29) (q5 116) rfl (r26 hB) (by decide) (f26_1 hB) ?_
    refine w_aln (p := 120) (q5 119) rfl rfl ?_
    refine w_gI (p := 123) (j := 4) (v := ((zz s4 26 4) + 1)) (q5 120) rfl (r26 hB) (by decide) rfl ?_
    refine w_il (p := 125) (q5 123) rfl rfl ?_
    refine w_iln (p := 126) (q5 125) rfl rfl ?_
    refine w_add (p := 127) (q5 126) rfl ?_
    refine w_iln (p := 128) (q5 127) rfl rfl ?_
    refine w_sub (p := 129) (q5 128) rfl ?_
    obtain ⟨o9, w⟩ := w
    refine w_ias (p := 130) (q5 129) rfl (r29 hB) (by decide) o9 ?_
    refine w_aln (p := 131) (q5 130) rfl rfl ?_
    refine w_gI (p := 134) (j := 4) (v := ((zz s4 26 4) + 1)) (q5 131) rfl (r26 hB) (by decide) rfl ?_
    refine w_ic (p := 135) (q5 134) rfl ?_
    refine w_sub (p := 136) (q5 135) rfl ?_
    exact w_ret (q5 136) rfl w
  · replace w := w.2 (Int.not_le.mp c3)
    refine w_i2f (p := 48) (q5 45) rfl h1 h2 c3 ?_
    refine w_aln (p := 49) (q5 48) rfl rfl ?_
    refine w_gR (p := 52) (j := 0) (v := 28) (q5 49) rfl (r26 hB) (by decide) (f26_0 hB) ?_
    refine w_il (p := 54) (q5 52) rfl rfl ?_
    refine w_il (p := 56) (q5 54) rfl rfl ?_
    refine w_add (p := 57) (q5 56) rfl ?_
    refine w_iln (p := 58) (q5 57) rfl rfl ?_
    refine w_sub (p := 59) (q5 58) rfl ?_
    refine w_aln (p := 60) (q5 59) rfl rfl ?_
    refine w_il (p := 62) (q5 60) rfl rfl ?_
    obtain ⟨o10, w⟩ := w
    refine w_ba (p := 63) (v := (zz s 2 x5.toNat)) (q5 62) rfl (r2 hB) (by decide) o10 (iv_zz s 2 x5.toNat) ?_
    obtain ⟨o11, w⟩ := w
    obtain ⟨o12, w⟩ := w
    refine w_bas (p := 64) (v := (zz s 2 x5.toNat)) (q5 63) rfl (r28 hB) (by decide) o11 (nar_b o12) ?_
    refine w_inc (p := 67) (ls' := [.ref 26, .ref 2, iv x2, iv x3, iv x4, iv (x5 + 1)]) (q5 64) rfl rfl rfl ?_
    refine w_goto (q5 67) ?_
    exact w
theorem x_find_loop26 {d : Nat} {B : aH} (hB : a_Can B) (hd : 1 ≤ d) (s : aZ) (l : aZL) (ns : List (List Int)) (hN : NT 26 28 29 30 27 2688 112 ns s) (a e : Nat) (nm : List Int) (hr : a + nm.length = e) (he : e ≤ 8000) (hg : Sg (zz s 2) a nm) : ∀ (m : Nat) (x4 x5 : Int), m ≤ ns.length → x4 = lb ns (bkL nm) m → 0 ≤ x5 → x5 + m ≤ ns.length → a_W d 39 16 [.ref 26, .ref 2, iv (a : Int), iv (e : Int), iv x4, iv x5] [] (mkH B s l) (fun q => q = (.inl (some (iv (fd ns nm m))), mkH B s l)) := by
  obtain ⟨⟨a1, a2, a3⟩, a4, a5, a6, a7⟩ := hN
  have hmono := NTs.mono (show NTs 26 28 29 ns s from ⟨a1, a2, a3⟩)
  intro m
  induction m using Nat.strongRecOn with
  | _ m ih =>
    intro x4 x5 hm hx4 h0 h5
    rcases lb_cases ns (bkL nm) m with ⟨h1, h2⟩ | ⟨i, h1, h2, h3, h4⟩
    · rw [h2 nm rfl]
      rw [h1] at hx4
      subst hx4
      exact w39n26_16 hB hd _ _ _ x5 s l ⟨⟨by omega, by omega⟩, fun _ => rfl, fun _ => ⟨⟨by decide, by decide⟩, fun _ => rfl, fun h => absurd h (by decide)⟩⟩
    · rw [h4 nm rfl]
      rw [h2] at hx4
      subst hx4
      obtain ⟨b1, b2, b3⟩ := a3 i (by omega)
      have hi1 := (hmono ns.length (Nat.le_refl _)).2 (i + 1) (by omega)
      have hi0 := (hmono (i + 1) (by omega)).1
      have nx : ns.getD i [] ≠ nm → a_W d 39 16 [.ref 26, .ref 2, iv (a : Int), iv (e : Int), iv (zz s 30 i), iv (x5 + 1)] [] (mkH B s l) (fun q => q = (.inl (some (iv (fd ns nm (i + 1)))), mkH B s l)) := by
        intro hne
        have := ih i h1 (zz s 30 i) (x5 + 1) (by omega) (by rw [a5 i (by omega), h3]) (by omega) (by omega)
        unfold fd
        rw [if_neg hne]
        exact this
      refine w39n26_16 hB hd _ _ _ x5 s l ⟨⟨by omega, by omega⟩, fun h => absurd h (by omega), fun _ => ⟨⟨by omega, by omega⟩, fun h => absurd h (by omega), fun _ => ⟨⟨by omega, by omega⟩, ⟨by omega, by omega⟩, ?_⟩⟩⟩
      rw [show ((i : Int) + 1).toNat = i + 1 by omega, natc]
      refine ⟨⟨by omega, by omega⟩, ⟨by omega, by omega⟩, fun hl => ⟨⟨by omega, by omega⟩, nx (fun q => hl ?_)⟩, fun hl => ?_⟩
      · rw [q] at b1
        omega
      · have hlen : nm.length = (ns.getD i []).length := by omega
        have ez : zz s 29 i = (((zz s 29 i).toNat : Nat) : Int) := by omega
        rw [ez]
        refine a_W.imp (x_same28 hB s l a (zz s 29 i).toNat e nm (ns.getD i []) hlen hr he (by omega) hg b3) ?_
        rintro _ rfl
        refine ⟨_, s, l, rfl, ?_⟩
        by_cases hq : nm = ns.getD i []
        · rw [if_pos hq]
          refine ⟨⟨by decide, by decide⟩, fun h => absurd h (by decide), fun _ => ?_⟩
          unfold fd
          rw [if_pos hq.symm]
        · rw [if_neg hq]
          exact ⟨⟨by decide, by decide⟩, fun _ => ⟨⟨by omega, by omega⟩, nx (fun q => hq q.symm)⟩, fun h => absurd rfl h⟩
theorem x_find26 {d : Nat} {B : aH} (hB : a_Can B) (hd : 1 ≤ d) (s : aZ) (l : aZL) (ns : List (List Int)) (hN : NT 26 28 29 30 27 2688 112 ns s) (a e : Nat) (nm : List Int) (hr : a + nm.length = e) (he : e ≤ 8000) (hg : Sg (zz s 2) a nm) : a_W d 39 0 [.ref 26, .ref 2, iv (a : Int), iv (e : Int), .retAddr 0, .retAddr 0] [] (mkH B s l) (fun q => q = (.inl (some (iv (fd ns nm ns.length))), mkH B s l)) := by
  refine w39n26_0 hB hd _ _ s l (a_W.imp (x_bucket hB s l a e nm hr he hg) ?_)
  rintro _ rfl
  have hb := bkL_rng nm
  refine ⟨_, s, l, rfl, hb, ?_⟩
  have e1 : ((bkL nm).toNat : Int) = bkL nm := by omega
  have h4 := hN.2.1 (bkL nm).toNat (by omega)
  rw [e1] at h4
  rw [h4]
  exact x_find_loop26 hB hd s l ns hN a e nm hr he hg ns.length _ 0 (Nat.le_refl _) rfl (by decide) (by omega)
/-- adding copies the letters -/
theorem x_add_loop26 {d : Nat} {B : aH} (hB : a_Can B) (hd : 1 ≤ d) (l : aZL) (Q : aR → Prop) (a e : Nat) (he : e ≤ 8000) (st : Nat) : ∀ (r : List Int) (p : Nat) (s : aZ), p + r.length = e → a ≤ p → st + (e - a) ≤ 2688 → Sg (zz s 2) p r → (∀ c ∈ r, -128 ≤ c ∧ c ≤ 127) → (∀ s2 : aZ, (∀ k, k ≠ 28 → s2 k = s k) → (∀ j, (j < st + (p - a) ∨ st + (e - a) ≤ j) → zz s2 28 j = zz s 28 j) → Sg (zz s2 28) (st + (p - a)) r → a_W d 5 42 [.ref 26, .ref 2, iv (a : Int), iv (e : Int), iv (st : Int), iv (e : Int)] [] (mkH B s2 l) Q) → a_W d 5 42 [.ref 26, .ref 2, iv (a : Int), iv (e : Int), iv (st : Int), iv (p : Int)] [] (mkH B s l) Q := by
  intro r
  induction r with
  | nil =>
    intro p s hp ha hst hg hr K
    have hp2 : p = e := by simpa using hp
    rw [hp2]
    refine K s (fun _ _ => rfl) (fun _ _ => rfl) (fun j hj => absurd hj (Nat.not_lt_zero _))
  | cons c r ih =>
    intro p s hp ha hst hg hr K
    have hp2 : p + 1 + r.length = e := by rw [List.length_cons] at hp; omega
    obtain ⟨g1, g2⟩ := hg.tl
    have hc := hr c List.mem_cons_self
    refine w5n26_42 hB hd _ _ _ _ s l ⟨⟨by omega, by omega⟩, ⟨by omega, by omega⟩, fun h => absurd h (by omega), fun _ => ⟨⟨by omega, by omega⟩, ⟨by omega, by omega⟩, ?_⟩⟩
    rw [natc, g1, show ((st : Int) + (p : Int) - (a : Int)).toNat = st + (p - a) by omega, show (p : Int) + 1 = ((p + 1 : Nat) : Int) by omega]
    refine ⟨hc, ih (p + 1) _ hp2 (by omega) hst ?_ (fun c2 h2 => hr c2 (List.mem_cons_of_mem _ h2)) ?_⟩
    · intro j hj
      rw [zz_ne _ _ _ _ _ _ (by omega)]
      exact g2 j hj
    · intro s2 k1 k2 k3
      refine K s2 (fun k hk => ?_) (fun j hj => ?_) (fun j hj => ?_)
      · rw [k1 k hk, zu_ne _ _ _ _ _ hk]
      · rw [k2 j (by omega), zz_ne _ _ _ _ _ _ (by omega)]
      · cases j with
        | zero =>
          show zz s2 28 (st + (p - a)) = c
          rw [k2 _ (by omega), zz_same _ _ _ ⟨by omega, by omega⟩]
        | succ j =>
          have := k3 j (by rw [List.length_cons] at hj; omega)
          rw [show st + (p - a) + (j + 1) = st + (p + 1 - a) + j by omega]
          exact this
theorem x_add26 {d : Nat} {B : aH} (hB : a_Can B) (hd : 1 ≤ d) (s : aZ) (l : aZL) (ns : List (List Int)) (hN : NT 26 28 29 30 27 2688 112 ns s) (a e : Nat) (nm : List Int) (hr : a + nm.length = e) (he : e ≤ 8000) (hg : Sg (zz s 2) a nm) (hc : ∀ c ∈ nm, -128 ≤ c ∧ c ≤ 127) (hn : ns.length < 112) (hl : zz s 29 ns.length + nm.length ≤ 2688) : a_W d 5 0 [.ref 26, .ref 2, iv (a : Int), iv (e : Int), .retAddr 0, .retAddr 0] [] (mkH B s l) (fun q => ∃ s2, q = (.inl (some (iv (ns.length : Int))), mkH B s2 l) ∧ NT 26 28 29 30 27 2688 112 (ns ++ [nm]) s2 ∧ zz s2 29 (ns.length + 1) = zz s 29 ns.length + nm.length ∧ ∀ k, k ≠ 26 → k ≠ 28 → k ≠ 29 → k ≠ 30 → k ≠ 27 → s2 k = s k) := by
  have hN' := hN
  obtain ⟨⟨a1, a2, a3⟩, a4, a5, a6, a7⟩ := hN
  have hmono := NTs.mono (show NTs 26 28 29 ns s from ⟨a1, a2, a3⟩)
  have h0 := (hmono ns.length (Nat.le_refl _)).1
  have ec : (zz s 26 4).toNat = ns.length := by omega
  refine w5n26_0 hB _ _ s l ⟨⟨by omega, by omega⟩, fun h => absurd h (by omega), fun _ => ?_⟩
  rw [ec]
  refine ⟨⟨by omega, by omega⟩, ⟨by omega, by omega⟩, fun _ => ?_, fun h => absurd h (by omega)⟩
  have es : zz s 29 ns.length = (((zz s 29 ns.length).toNat : Nat) : Int) := by omega
  rw [es]
  refine x_add_loop26 hB hd l _ a e he (zz s 29 ns.length).toNat nm a s hr (Nat.le_refl _) (by omega) hg hc ?_
  intro s2 k1 k2 k3
  rw [Nat.sub_self, Nat.add_zero] at k2 k3
  have g2 : Sg (zz s2 2) a nm := fun j hj => (zz_of (k1 2 (by decide)) _).trans (hg j hj)
  refine w5n26_42 hB hd _ _ _ _ s2 l ⟨⟨by omega, by omega⟩, ⟨by omega, by omega⟩, fun _ => a_W.imp (x_bucket hB s2 l a e nm hr he g2) ?_, fun h => absurd h (by omega)⟩
  rintro _ rfl
  have hb := bkL_rng nm
  have eP : zz s2 26 4 = ns.length := (zz_of (k1 26 (by decide)) _).trans a1
  refine ⟨_, s2, l, rfl, hb, ⟨by omega, by omega⟩, ⟨by omega, by omega⟩, ?_⟩
  rw [eP, natc, show ((ns.length : Int) + 1).toNat = ns.length + 1 by omega]
  have hbn : ((bkL nm).toNat : Int) = bkL nm := by omega
  have eF : zz s2 27 (bkL nm).toNat = lb ns (bkL nm) ns.length := by
    rw [zz_of (k1 27 (by decide)), a4 _ (by omega), hbn]
  have rF : inR (zz s2 27 (bkL nm).toNat) := inR_zz _ _ _
  refine ⟨_, by rw [show (ns.length : Int) + 1 - 1 = ns.length by omega], ⟨⟨?_, ?_, ?_⟩, ?_, ?_, ?_, ?_⟩, ?_, ?_⟩
  · rw [zz_ne _ _ _ _ _ _ (by omega), zz_same _ _ _ ⟨by omega, by omega⟩, List.length_append]
    simp
  · rw [zz_ne _ _ _ _ _ _ (by omega), zz_ne _ _ _ _ _ _ (by omega), zz_ne _ _ _ _ _ _ (by omega), zz_ne _ _ _ _ _ _ (by omega), zz_of (k1 29 (by decide))]
    exact a2
  · intro i hi
    have eS : ∀ q, q ≤ ns.length → zz (zu (zu (zu (zu s2 30 ns.length (zz s2 27 (bkL nm).toNat)) 27 (bkL nm).toNat (ns.length : Int)) 26 4 ((ns.length : Int) + 1)) 29 (ns.length + 1) ((((zz s 29 ns.length).toNat : Int) + (e : Int)) - (a : Int))) 29 q = zz s 29 q := by
      intro q hq
      rw [zz_ne _ _ _ _ _ _ (by omega), zz_ne _ _ _ _ _ _ (by omega), zz_ne _ _ _ _ _ _ (by omega), zz_ne _ _ _ _ _ _ (by omega), zz_of (k1 29 (by decide))]
    have eL : ∀ q, zz (zu (zu (zu (zu s2 30 ns.length (zz s2 27 (bkL nm).toNat)) 27 (bkL nm).toNat (ns.length : Int)) 26 4 ((ns.length : Int) + 1)) 29 (ns.length + 1) ((((zz s 29 ns.length).toNat : Int) + (e : Int)) - (a : Int))) 28 q = zz s2 28 q := by
      intro q
      rw [zz_ne _ _ _ _ _ _ (by omega), zz_ne _ _ _ _ _ _ (by omega), zz_ne _ _ _ _ _ _ (by omega), zz_ne _ _ _ _ _ _ (by omega)]
    by_cases hin : i < ns.length
    · obtain ⟨b1, b2, b3⟩ := a3 i hin
      have m1 := (hmono ns.length (Nat.le_refl _)).2 (i + 1) (by omega)
      rw [eS i (by omega), eS (i + 1) (by omega), getD_app _ _ _ _ hin]
      refine ⟨b1, b2, fun j hj => ?_⟩
      rw [eL, k2 _ (by omega)]
      exact b3 j hj
    · have hil : i = ns.length := by
        rw [List.length_append] at hi
        simp at hi
        omega
      subst hil
      rw [eS _ (Nat.le_refl _), zz_same _ _ _ ⟨by omega, by omega⟩, getD_last]
      refine ⟨by omega, h0, fun j hj => ?_⟩
      rw [eL]
      exact k3 j hj
  · intro b hb2
    rw [zz_ne _ _ _ _ _ _ (by omega), zz_ne _ _ _ _ _ _ (by omega), List.length_append]
    show _ = lb (ns ++ [nm]) b (ns.length + 1)
    unfold lb
    rw [getD_last, lb_app _ _ _ _ (Nat.le_refl _)]
    by_cases hq : b = (bkL nm).toNat
    · rw [hq, zz_same _ _ _ ⟨by omega, by omega⟩, if_pos hbn.symm]
    · rw [zz_ne _ _ _ _ _ _ (by omega), zz_ne _ _ _ _ _ _ (by omega), zz_of (k1 27 (by decide)), a4 b hb2, if_neg (by omega)]
  · intro i hi
    rw [zz_ne _ _ _ _ _ _ (by omega), zz_ne _ _ _ _ _ _ (by omega), zz_ne _ _ _ _ _ _ (by omega)]
    by_cases hin : i < ns.length
    · rw [zz_ne _ _ _ _ _ _ (by omega), zz_of (k1 30 (by decide)), getD_app _ _ _ _ hin, lb_app _ _ _ _ (Nat.le_of_lt hin)]
      exact a5 i hin
    · have hil : i = ns.length := by
        rw [List.length_append] at hi
        simp at hi
        omega
      subst hil
      rw [zz_same _ _ _ rF, getD_last, lb_app _ _ _ _ (Nat.le_refl _)]
      exact eF
  · rw [List.length_append]
    simp
    omega
  · rw [List.length_append]
    show zz _ 29 (ns.length + 1) ≤ _
    rw [zz_same _ _ _ ⟨by omega, by omega⟩]
    omega
  · rw [zz_same _ _ _ ⟨by omega, by omega⟩]
    omega
  · intro k h1 h2 h3 h4 h5
    rw [zu_ne _ _ _ _ _ h3, zu_ne _ _ _ _ _ h1, zu_ne _ _ _ _ _ h5, zu_ne _ _ _ _ _ h4]
    exact k1 k h2
/-- a type's name is found or added, and its number set down -/
theorem x_foa {d : Nat} {B : aH} (hB : a_Can B) (hd : 2 ≤ d) (s : aZ) (l : aZL) (ns : List (List Int)) (hN : NT 3 5 6 7 4 10240 3000 ns s) (a e : Nat) (nm : List Int) (hr : a + nm.length = e) (he : e ≤ 8000) (hg : Sg (zz s 2) a nm) (hc : ∀ c ∈ nm, -128 ≤ c ∧ c ≤ 127) (hn : ns.length < 3000) (hl : zz s 6 ns.length + nm.length ≤ 10240) (h8 : zz s 1 8 = e) {Q : aR → Prop}
    (hQ : ∀ s2, NT 3 5 6 7 4 10240 3000 (if fd ns nm ns.length < 0 then ns ++ [nm] else ns) s2 → (∀ k, k ≠ 1 → k ≠ 3 → k ≠ 5 → k ≠ 6 → k ≠ 7 → k ≠ 4 → s2 k = s k) → (∀ j, j ≠ 9 → zz s2 1 j = zz s 1 j) → Q (.inl none, mkH B (zu s2 1 9 (if fd ns nm ns.length < 0 then (ns.length : Int) else fd ns nm ns.length)) l)) :
    a_W d 39 0 [.ref 3, .ref 2, iv (a : Int), iv (e : Int), .retAddr 0, .retAddr 0] [] (mkH B s l) (fun r => ∃ (v11 : Int) (s9 : Nat → Nat → Int32) (l10 : Nat → Nat → Int64), r = (.inl (some (iv v11)), mkH B s9 l10) ∧ (inR v11 ∧ ((0 ≤ v11 → Q (.inl none, (mkH B (zu s9 1 9 v11) l10))) ∧ (v11 < 0 → a_W d 5 0 [.ref 3, .ref 2, iv (a : Int), iv (zz s9 1 8), .retAddr 0, .retAddr 0] [] (mkH B (zu s9 1 9 v11) l10) (fun r => ∃ (v16 : Int) (s14 : Nat → Nat → Int32) (l15 : Nat → Nat → Int64), r = (.inl (some (iv v16)), mkH B s14 l15) ∧ Q (.inl none, (mkH B (zu s14 1 9 v16) l15))))))) := by
  refine a_W.imp (x_find3 hB (by omega) s l ns hN a e nm hr he hg) ?_
  rintro _ rfl
  have hr2 : inR (fd ns nm ns.length) := by
    rcases fd_cases ns nm ns.length with ⟨h, -⟩ | ⟨i, hi, h, -⟩
    · rw [h]; decide
    · rw [h]; exact ⟨by omega, by omega⟩
  refine ⟨_, s, l, rfl, hr2, fun h => ?_, fun h => ?_⟩
  · have h0 := hQ s (by rw [if_neg (by omega)]; exact hN) (fun _ _ _ _ _ _ _ => rfl) (fun _ _ => rfl)
    rw [if_neg (by omega)] at h0
    exact h0
  · rw [h8]
    have hne : ∀ k, k ≠ 1 → zu s 1 9 (fd ns nm ns.length) k = s k := fun k hk => zu_ne _ _ _ _ _ hk
    have hN2 : NT 3 5 6 7 4 10240 3000 ns (zu s 1 9 (fd ns nm ns.length)) := hN.fr (zz_ne _ _ _ _ _ _ (by decide)) (hne 5 (by decide)) (hne 6 (by decide)) (hne 7 (by decide)) (hne 4 (by decide))
    have hz6 : zz (zu s 1 9 (fd ns nm ns.length)) 6 = zz s 6 := by funext j; exact zz_ne _ _ _ _ _ _ (by omega)
    have hz2 : zz (zu s 1 9 (fd ns nm ns.length)) 2 = zz s 2 := by funext j; exact zz_ne _ _ _ _ _ _ (by omega)
    refine a_W.imp (x_add3 hB (by omega) _ l ns hN2 a e nm hr he (by rw [hz2]; exact hg) hc hn (by rw [hz6]; exact hl)) ?_
    rintro _ ⟨s2, rfl, k1, k2, k3⟩
    have h0 := hQ s2 (by rw [if_pos h]; exact k1) (fun k q1 q3 q5 q6 q7 q4 => (k3 k q3 q5 q6 q7 q4).trans (hne k q1)) (fun j hj => by
      have e1 : s2 1 = _ := k3 1 (by decide) (by decide) (by decide) (by decide) (by decide)
      have e2 : zz s2 1 j = zz (zu s 1 9 (fd ns nm ns.length)) 1 j := by unfold zz; rw [e1]
      rw [e2]
      exact zz_ne _ _ _ _ _ _ (fun q => hj q.2))
    rw [if_pos h] at h0
    exact ⟨_, s2, l, rfl, h0⟩
