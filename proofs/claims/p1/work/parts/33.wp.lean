/-! RUNS BY THEIR OWN END: what a run comes to, with ints as whole numbers -/
abbrev mkH (B : aH) (s : Nat → Nat → Int32) (l : Nat → Nat → Int64) : aH := (B.1, B.2.1, B.2.2.1, s, l, B.2.2.2.2.2)
abbrev iv (z : Int) : Value := .int (Int32.ofInt z)
abbrev inR (z : Int) : Prop := -2147483648 ≤ z ∧ z < 2147483648
def zz (s : Nat → Nat → Int32) (k j : Nat) : Int := (s k j).toInt
def zu (s : Nat → Nat → Int32) (k j : Nat) (z : Int) : Nat → Nat → Int32 := a_up s k j (Int32.ofInt z)
theorem toI {z : Int} (h : inR z) : (Int32.ofInt z).toInt = z := Int32.toInt_ofInt_of_le h.1 h.2
theorem inR_i32 (x : Int32) : inR x.toInt := ⟨Int32.le_toInt x, Int32.toInt_lt x⟩
theorem inR_zz (s : Nat → Nat → Int32) (k j : Nat) : inR (zz s k j) := inR_i32 _
theorem iv_zz (s : Nat → Nat → Int32) (k j : Nat) : Value.int (s k j) = iv (zz s k j) := by
  show Value.int (s k j) = Value.int (Int32.ofInt (s k j).toInt)
  rw [Int32.ofInt_toInt]
theorem iv_i (x : Int32) : Value.int x = iv x.toInt := by
  show Value.int x = Value.int (Int32.ofInt x.toInt)
  rw [Int32.ofInt_toInt]
theorem zz_zu (s : Nat → Nat → Int32) (k j k' j' : Nat) {z : Int} (h : inR z) : zz (zu s k j z) k' j' = if k' = k ∧ j' = j then z else zz s k' j' := by
  unfold zz zu a_up
  by_cases h1 : k' = k
  · subst h1
    by_cases h2 : j' = j
    · subst h2
      simp only [if_true, and_self]
      exact toI h
    · simp only [if_true, h2, if_false, and_false]
  · simp only [h1, if_false, false_and]
theorem zz_same (s : Nat → Nat → Int32) (k j : Nat) {z : Int} (h : inR z) : zz (zu s k j z) k j = z := by rw [zz_zu s k j k j h, if_pos ⟨rfl, rfl⟩]
theorem zz_ne (s : Nat → Nat → Int32) (k j k' j' : Nat) (z : Int) (h : ¬ (k' = k ∧ j' = j)) : zz (zu s k j z) k' j' = zz s k' j' := by
  unfold zz zu a_up
  by_cases h1 : k' = k
  · subst h1
    by_cases h2 : j' = j
    · exact absurd ⟨rfl, h2⟩ h
    · simp only [if_true, h2, if_false]
  · simp only [h1, if_false]
theorem zu_ne (s : Nat → Nat → Int32) (k j k' : Nat) (z : Int) (h : k' ≠ k) : zu s k j z k' = s k' := by
  unfold zu a_up
  simp only [h, if_false]
def a_W (d y pc : Nat) (ls st : List Value) (h : aH) (Q : aR → Prop) : Prop := ∃ n r, a_run n d y pc ls st h = some r ∧ Q r
theorem a_W.imp {d y pc : Nat} {ls st : List Value} {h : aH} {Q Q' : aR → Prop} (w : a_W d y pc ls st h Q) (hq : ∀ r, Q r → Q' r) : a_W d y pc ls st h Q' := by
  obtain ⟨n, r, h1, h2⟩ := w
  exact ⟨n, r, h1, hq r h2⟩
theorem w_st {d y pc pc' : Nat} {ls st ls' st' : List Value} {h h' : aH} {Q : aR → Prop} {ai : aI} (hc : aCode y pc = some ai) (hs : a_step a_nc false pc ai.1 ai.2.1 ai.2.2.1 ls st h = some (.inl (pc', ls', st', h'))) (k : a_W d y pc' ls' st' h' Q) : a_W d y pc ls st h Q := by
  obtain ⟨n, r, hn, hq⟩ := k
  obtain ⟨m, hm⟩ := a_Ev.st hc (a_step_ct hs) ⟨n, hn⟩
  exact ⟨m, r, hm, hq⟩
theorem w_en {d y pc : Nat} {ls st : List Value} {h : aH} {Q : aR → Prop} {r : aR} {ai : aI} (hc : aCode y pc = some ai) (hs : a_step a_nc false pc ai.1 ai.2.1 ai.2.2.1 ls st h = some (.inr r)) (hr : a_rok y r = true) (k : Q r) : a_W d y pc ls st h Q := by
  obtain ⟨m, hm⟩ := a_Ev.en (d := d) hc (a_step_ct hs) hr
  exact ⟨m, r, hm, k⟩
def a_Arr (B : aH) (k c n : Nat) : Prop := k < B.1 ∧ B.2.2.1 k = (c, n)
section
variable {d y pc p a b : Nat} {w : List Nat} {ls ls' st : List Value} {h B : aH} {s : Nat → Nat → Int32} {l : Nat → Nat → Int64} {Q : aR → Prop}
theorem w_ic {n : Int} (hc : aCode y pc = some (.iconst n, a, b, w)) (hp : pc + 1 = p) (K : a_W d y p ls (iv n :: st) h Q) : a_W d y pc ls st h Q := by
  subst hp
  exact w_st hc rfl K
theorem w_bp {n : Int} (hc : aCode y pc = some (.bipush n, a, b, w)) (hp : pc + 2 = p) (hn : (Int8.ofInt n).toInt32 = Int32.ofInt n) (K : a_W d y p ls (iv n :: st) h Q) : a_W d y pc ls st h Q := by
  subst hp
  exact w_st hc (show some (Sum.inl (pc + 2, ls, Value.int (Int8.ofInt n).toInt32 :: st, h)) = _ by rw [hn]) K
theorem w_sp {n : Int} (hc : aCode y pc = some (.sipush n, a, b, w)) (hp : pc + 3 = p) (hn : (Int16.ofInt n).toInt32 = Int32.ofInt n) (K : a_W d y p ls (iv n :: st) h Q) : a_W d y pc ls st h Q := by
  subst hp
  exact w_st hc (show some (Sum.inl (pc + 3, ls, Value.int (Int16.ofInt n).toInt32 :: st, h)) = _ by rw [hn]) K
theorem w_ldc {n : Int} {i : Nat} (hc : aCode y pc = some (.ldc i, a, 0, w)) (hp : pc + 2 = p) (hn : Int32.ofNat a = Int32.ofInt n) (K : a_W d y p ls (iv n :: st) h Q) : a_W d y pc ls st h Q := by
  subst hp
  exact w_st hc (show some (Sum.inl (pc + 2, ls, Value.int (Int32.ofNat a) :: st, h)) = _ by rw [hn]) K
theorem w_ldcw {n : Int} {i : Nat} (hc : aCode y pc = some (.ldc_w i, a, 0, w)) (hp : pc + 3 = p) (hn : Int32.ofNat a = Int32.ofInt n) (K : a_W d y p ls (iv n :: st) h Q) : a_W d y pc ls st h Q := by
  subst hp
  exact w_st hc (show some (Sum.inl (pc + 3, ls, Value.int (Int32.ofNat a) :: st, h)) = _ by rw [hn]) K
theorem w_ldcs {i : Nat} (hc : aCode y pc = some (.ldc i, a, b + 1, w)) (hp : pc + 2 = p) (K : a_W d y p ls (.ref (aC0 + a) :: st) h Q) : a_W d y pc ls st h Q := by
  subst hp
  exact w_st hc (by
    show (if b + 1 = 0 then some (Sum.inl (pc + 2, ls, Value.int (Int32.ofNat a) :: st, h)) else some (Sum.inl (pc + 2, ls, Value.ref (aC0 + a) :: st, h))) = _
    rw [if_neg (Nat.succ_ne_zero b)]) K
theorem w_ldcws {i : Nat} (hc : aCode y pc = some (.ldc_w i, a, b + 1, w)) (hp : pc + 3 = p) (K : a_W d y p ls (.ref (aC0 + a) :: st) h Q) : a_W d y pc ls st h Q := by
  subst hp
  exact w_st hc (by
    show (if b + 1 = 0 then some (Sum.inl (pc + 3, ls, Value.int (Int32.ofNat a) :: st, h)) else some (Sum.inl (pc + 3, ls, Value.ref (aC0 + a) :: st, h))) = _
    rw [if_neg (Nat.succ_ne_zero b)]) K
theorem w_il {n : Nat} {x : Int} (hc : aCode y pc = some (.iload n, a, b, w)) (hp : pc + 2 = p) (hl : ls[n]? = some (iv x)) (K : a_W d y p ls (iv x :: st) h Q) : a_W d y pc ls st h Q := by
  subst hp
  exact w_st hc (by
    show a_go _ _ _ (a_ldi ls st n) = _
    unfold a_ldi
    rw [hl]
    rfl) K
theorem w_iln {n : Fin 4} {x : Int} (hc : aCode y pc = some (.iload_n n, a, b, w)) (hp : pc + 1 = p) (hl : ls[n.val]? = some (iv x)) (K : a_W d y p ls (iv x :: st) h Q) : a_W d y pc ls st h Q := by
  subst hp
  exact w_st hc (by
    show a_go _ _ _ (a_ldi ls st n.val) = _
    unfold a_ldi
    rw [hl]
    rfl) K
theorem w_al {n x : Nat} (hc : aCode y pc = some (.aload n, a, b, w)) (hp : pc + 2 = p) (hl : ls[n]? = some (.ref x)) (K : a_W d y p ls (.ref x :: st) h Q) : a_W d y pc ls st h Q := by
  subst hp
  exact w_st hc (by
    show a_go _ _ _ (a_lda ls st n) = _
    unfold a_lda
    rw [hl]
    rfl) K
theorem w_aln {n : Fin 4} {x : Nat} (hc : aCode y pc = some (.aload_n n, a, b, w)) (hp : pc + 1 = p) (hl : ls[n.val]? = some (.ref x)) (K : a_W d y p ls (.ref x :: st) h Q) : a_W d y pc ls st h Q := by
  subst hp
  exact w_st hc (by
    show a_go _ _ _ (a_lda ls st n.val) = _
    unfold a_lda
    rw [hl]
    rfl) K
theorem w_is {n : Nat} {x : Int} (hc : aCode y pc = some (.istore n, a, b, w)) (hp : pc + 2 = p) (hn : n < ls.length) (hl : ls.set n (iv x) = ls') (K : a_W d y p ls' st h Q) : a_W d y pc ls (iv x :: st) h Q := by
  subst hp
  exact w_st hc (by
    subst hl
    show (if n < ls.length then _ else _) = _
    rw [if_pos hn]) K
theorem w_isn {n : Fin 4} {x : Int} (hc : aCode y pc = some (.istore_n n, a, b, w)) (hp : pc + 1 = p) (hn : n.val < ls.length) (hl : ls.set n.val (iv x) = ls') (K : a_W d y p ls' st h Q) : a_W d y pc ls (iv x :: st) h Q := by
  subst hp
  exact w_st hc (by
    subst hl
    show (if n.val < ls.length then _ else _) = _
    rw [if_pos hn]) K
theorem w_inc {n : Nat} {x m : Int} (hc : aCode y pc = some (.iinc n m, a, b, w)) (hp : pc + 3 = p) (hl : ls[n]? = some (iv x)) (hl2 : ls.set n (iv (x + m)) = ls') (K : a_W d y p ls' st h Q) : a_W d y pc ls st h Q := by
  subst hp
  exact w_st hc (by
    subst hl2
    show a_inc _ _ _ _ _ _ = _
    unfold a_inc
    rw [hl]
    show some (Sum.inl (pc + 3, ls.set n (.int (Int32.ofInt x + Int32.ofInt m)), st, h)) = _
    rw [← Int32.ofInt_add]) K
theorem w_add {x z : Int} (hc : aCode y pc = some (.iadd, a, b, w)) (hp : pc + 1 = p) (K : a_W d y p ls (iv (x + z) :: st) h Q) : a_W d y pc ls (iv z :: iv x :: st) h Q := by
  subst hp
  exact w_st hc (show some (Sum.inl (pc + 1, ls, Value.int (Int32.ofInt x + Int32.ofInt z) :: st, h)) = _ by rw [← Int32.ofInt_add]) K
theorem w_sub {x z : Int} (hc : aCode y pc = some (.isub, a, b, w)) (hp : pc + 1 = p) (K : a_W d y p ls (iv (x - z) :: st) h Q) : a_W d y pc ls (iv z :: iv x :: st) h Q := by
  subst hp
  exact w_st hc (show some (Sum.inl (pc + 1, ls, Value.int (Int32.ofInt x - Int32.ofInt z) :: st, h)) = _ by rw [← Int32.ofInt_sub]) K
theorem w_mulz {x z : Int} (hc : aCode y pc = some (.imul, a, b, w)) (hp : pc + 1 = p) (K : a_W d y p ls (iv (x * z) :: st) h Q) : a_W d y pc ls (iv z :: iv x :: st) h Q := by
  subst hp
  exact w_st hc (show some (Sum.inl (pc + 1, ls, Value.int (Int32.ofInt x * Int32.ofInt z) :: st, h)) = _ by rw [← Int32.ofInt_mul]) K
theorem w_and {x z : Int} (hc : aCode y pc = some (.iand, a, b, w)) (hp : pc + 1 = p) (K : a_W d y p ls (iv (Int32.ofInt x &&& Int32.ofInt z).toInt :: st) h Q) : a_W d y pc ls (iv z :: iv x :: st) h Q := by
  subst hp
  exact w_st hc (show some (Sum.inl (pc + 1, ls, Value.int (Int32.ofInt x &&& Int32.ofInt z) :: st, h)) = _ by rw [iv_i]) K
theorem w_ushr {x z : Int} (hc : aCode y pc = some (.iushr, a, b, w)) (hp : pc + 1 = p) (K : a_W d y p ls (iv (((Int32.ofInt x).toUInt32 >>> ((Int32.ofInt z).toUInt32 &&& Int32.toUInt32 31)).toInt32).toInt :: st) h Q) : a_W d y pc ls (iv z :: iv x :: st) h Q := by
  subst hp
  exact w_st hc (show some (Sum.inl (pc + 1, ls, Value.int ((Int32.ofInt x).toUInt32 >>> ((Int32.ofInt z).toUInt32 &&& Int32.toUInt32 31)).toInt32 :: st, h)) = _ by rw [iv_i]) K
theorem w_shr {x z : Int} (hc : aCode y pc = some (.ishr, a, b, w)) (hp : pc + 1 = p) (K : a_W d y p ls (iv (Int32.ofInt x >>> (Int32.ofInt z &&& 31)).toInt :: st) h Q) : a_W d y pc ls (iv z :: iv x :: st) h Q := by
  subst hp
  exact w_st hc (show some (Sum.inl (pc + 1, ls, Value.int (Int32.ofInt x >>> (Int32.ofInt z &&& 31)) :: st, h)) = _ by rw [iv_i]) K
theorem w_i2b {x : Int} (hc : aCode y pc = some (.i2b, a, b, w)) (hp : pc + 1 = p) (K : a_W d y p ls (iv ((Int32.ofInt x).toInt8.toInt32).toInt :: st) h Q) : a_W d y pc ls (iv x :: st) h Q := by
  subst hp
  exact w_st hc (show some (Sum.inl (pc + 1, ls, Value.int (Int32.ofInt x).toInt8.toInt32 :: st, h)) = _ by rw [iv_i]) K
theorem w_dup {x : Int} (hc : aCode y pc = some (.dup, a, b, w)) (hp : pc + 1 = p) (K : a_W d y p ls (iv x :: iv x :: st) h Q) : a_W d y pc ls (iv x :: st) h Q := by
  subst hp
  exact w_st hc rfl K
theorem w_dupr {x : Nat} (hc : aCode y pc = some (.dup, a, b, w)) (hp : pc + 1 = p) (K : a_W d y p ls (.ref x :: .ref x :: st) h Q) : a_W d y pc ls (.ref x :: st) h Q := by
  subst hp
  exact w_st hc rfl K
theorem w_dup2 {x : Nat} {z : Int} (hc : aCode y pc = some (.dup2, a, b, w)) (hp : pc + 1 = p) (K : a_W d y p ls (iv z :: .ref x :: iv z :: .ref x :: st) h Q) : a_W d y pc ls (iv z :: .ref x :: st) h Q := by
  subst hp
  exact w_st hc rfl K
theorem w_pop {x : Int} (hc : aCode y pc = some (.pop, a, b, w)) (hp : pc + 1 = p) (K : a_W d y p ls st h Q) : a_W d y pc ls (iv x :: st) h Q := by
  subst hp
  exact w_st hc rfl K
theorem w_goto {o : Int} (hc : aCode y pc = some (.goto o, a, b, w)) (K : a_W d y a ls st h Q) : a_W d y pc ls st h Q := w_st hc rfl K
def zc (c : ClassFile.Cond) (x z : Int) : Prop := match c with
  | .eq => x = z
  | .ne => x ≠ z
  | .lt => x < z
  | .ge => z ≤ x
  | .gt => z < x
  | .le => x ≤ z
theorem ofI_lt {x z : Int} (hx : inR x) (hz : inR z) : Int32.ofInt x < Int32.ofInt z ↔ x < z := by rw [Int32.lt_iff_toInt_lt, toI hx, toI hz]
theorem ofI_le {x z : Int} (hx : inR x) (hz : inR z) : Int32.ofInt x ≤ Int32.ofInt z ↔ x ≤ z := by rw [Int32.le_iff_toInt_le, toI hx, toI hz]
theorem ofI_eq {x z : Int} (hx : inR x) (hz : inR z) : Int32.ofInt x = Int32.ofInt z ↔ x = z := by
  constructor
  · intro e
    have := congrArg Int32.toInt e
    rwa [toI hx, toI hz] at this
  · intro e
    rw [e]
theorem cnd_iff (c : ClassFile.Cond) {x z : Int} (hx : inR x) (hz : inR z) : a_cnd c (Int32.ofInt x) (Int32.ofInt z) = true ↔ zc c x z := by
  cases c <;> unfold a_cnd zc <;> simp only [decide_eq_true_eq, ofI_lt hx hz, ofI_lt hz hx, ofI_le hx hz, ofI_le hz hx, ofI_eq hx hz, ne_eq]
theorem w_i2t {c : ClassFile.Cond} {o x z : Int} (hc : aCode y pc = some (.if_icmp c o, a, b, w)) (hx : inR x) (hz : inR z) (hcd : zc c x z) (K : a_W d y a ls st h Q) : a_W d y pc ls (iv z :: iv x :: st) h Q := w_st hc (by
  show some (Sum.inl (if a_cnd c (Int32.ofInt x) (Int32.ofInt z) = true then a else pc + 3, ls, st, h)) = _
  rw [if_pos ((cnd_iff c hx hz).mpr hcd)]) K
theorem w_i2f {c : ClassFile.Cond} {o x z : Int} (hc : aCode y pc = some (.if_icmp c o, a, b, w)) (hp : pc + 3 = p) (hx : inR x) (hz : inR z) (hcd : ¬ zc c x z) (K : a_W d y p ls st h Q) : a_W d y pc ls (iv z :: iv x :: st) h Q := by
  subst hp
  exact w_st hc (by
    show some (Sum.inl (if a_cnd c (Int32.ofInt x) (Int32.ofInt z) = true then a else pc + 3, ls, st, h)) = _
    rw [if_neg (fun e => hcd ((cnd_iff c hx hz).mp e))]) K
theorem w_i1t {c : ClassFile.Cond} {o x : Int} (hc : aCode y pc = some (.ifCond c o, a, b, w)) (hx : inR x) (hcd : zc c x 0) (K : a_W d y a ls st h Q) : a_W d y pc ls (iv x :: st) h Q := w_st hc (by
  show some (Sum.inl (if a_cnd c (Int32.ofInt x) (Int32.ofInt 0) = true then a else pc + 3, ls, st, h)) = _
  rw [if_pos ((cnd_iff c hx ⟨by decide, by decide⟩).mpr hcd)]) K
theorem w_i1f {c : ClassFile.Cond} {o x : Int} (hc : aCode y pc = some (.ifCond c o, a, b, w)) (hp : pc + 3 = p) (hx : inR x) (hcd : ¬ zc c x 0) (K : a_W d y p ls st h Q) : a_W d y pc ls (iv x :: st) h Q := by
  subst hp
  exact w_st hc (by
    show some (Sum.inl (if a_cnd c (Int32.ofInt x) (Int32.ofInt 0) = true then a else pc + 3, ls, st, h)) = _
    rw [if_neg (fun e => hcd ((cnd_iff c hx ⟨by decide, by decide⟩).mp e))]) K
theorem w_gI {i k n c j : Nat} {v : Int} (hc : aCode y pc = some (.getfield i, a, b, w)) (hp : pc + 3 = p) (hA : a_Arr B k c n) (hq : c = a / 100 ∧ a % 100 = j ∧ j < n ∧ b / 2 < 5) (hv : Value.int (s k j) = iv v) (K : a_W d y p ls (iv v :: st) (mkH B s l) Q) : a_W d y pc ls (.ref k :: st) (mkH B s l) Q := by
  subst hp
  obtain ⟨hq0, rfl, hq1, hq2⟩ := hq
  exact w_st hc (by
    show a_go (pc + 3) ls (mkH B s l) (if k < B.1 ∧ (B.2.2.1 k).1 = a / 100 ∧ a % 100 < (B.2.2.1 k).2 then some (a_slot (mkH B s l) k (a % 100) (b / 2) :: st) else none) = _
    obtain ⟨q1, q2⟩ := hA
    rw [if_pos (show _ ∧ _ ∧ _ from ⟨q1, by show (B.2.2.1 _).1 = _; rw [q2]; exact hq0, by show _ < (B.2.2.1 _).2; rw [q2]; exact hq1⟩)]
    unfold a_slot
    rw [if_neg (by omega), if_neg (by omega), hv]
    rfl) K
theorem w_gR {i k n c j v : Nat} (hc : aCode y pc = some (.getfield i, a, b, w)) (hp : pc + 3 = p) (hA : a_Arr B k c n) (hq : c = a / 100 ∧ a % 100 = j ∧ j < n ∧ b / 2 = 6) (hv : B.2.2.2.2.2 k j = some v) (K : a_W d y p ls (.ref v :: st) (mkH B s l) Q) : a_W d y pc ls (.ref k :: st) (mkH B s l) Q := by
  subst hp
  obtain ⟨hq0, rfl, hq1, hq2⟩ := hq
  exact w_st hc (by
    show a_go (pc + 3) ls (mkH B s l) (if k < B.1 ∧ (B.2.2.1 k).1 = a / 100 ∧ a % 100 < (B.2.2.1 k).2 then some (a_slot (mkH B s l) k (a % 100) (b / 2) :: st) else none) = _
    obtain ⟨q1, q2⟩ := hA
    rw [if_pos (show _ ∧ _ ∧ _ from ⟨q1, by show (B.2.2.1 _).1 = _; rw [q2]; exact hq0, by show _ < (B.2.2.1 _).2; rw [q2]; exact hq1⟩)]
    unfold a_slot
    rw [if_neg (by omega), if_pos hq2]
    show a_go _ _ _ (some (va_rf (B.2.2.2.2.2 _ _) :: st)) = _
    rw [hv]
    rfl) K
theorem a_fit_b {z : Int} (h : z = 0 ∨ z = 1) : a_fit 1 (Int32.ofInt z) = true := by
  rcases h with rfl | rfl <;> rfl
theorem w_pI {i k n c j : Nat} {z : Int} (hc : aCode y pc = some (.putfield i, a, b, w)) (hp : pc + 3 = p) (hA : a_Arr B k c n) (hq : c = a / 100 ∧ a % 100 = j ∧ j < n ∧ b / 2 < 5) (hf : a_fit (b / 2) (Int32.ofInt z) = true) (K : a_W d y p ls st (mkH B (zu s k j z) l) Q) : a_W d y pc ls (iv z :: .ref k :: st) (mkH B s l) Q := by
  subst hp
  obtain ⟨hq0, rfl, hq1, hq2⟩ := hq
  exact w_st hc (by
    show (if _ then _ else _) = _
    obtain ⟨q1, q2⟩ := hA
    rw [if_pos (show (_ ∧ _ ∧ _) ∧ _ ∧ _ from ⟨⟨q1, by show (B.2.2.1 _).1 = _; rw [q2]; exact hq0, by show _ < (B.2.2.1 _).2; rw [q2]; exact hq1⟩, hq2, hf⟩)]
    rfl) K
theorem toN {i : Int} (h0 : 0 ≤ i) (h1 : i < 2147483648) : (Int32.ofInt i).toNatClampNeg = i.toNat := by
  show (Int32.ofInt i).toInt.toNat = _
  rw [toI ⟨by omega, h1⟩]
theorem inC {i : Int} {n : Nat} (h0 : 0 ≤ i) (h1 : i < n) (hn : n ≤ 1000000) : a_in (Int32.ofInt i) n = true := by
  unfold a_in
  rw [decide_eq_true_eq, toN h0 (by omega)]
  have h2 : ¬ Int32.ofInt i < 0 := by
    show ¬ Int32.ofInt i < Int32.ofInt 0
    rw [ofI_lt ⟨by omega, by omega⟩ ⟨by decide, by decide⟩]
    omega
  intro h3
  rcases h3 with h3 | h3
  · exact h2 h3
  · omega
theorem w_ia {k n : Nat} {i v : Int} (hc : aCode y pc = some (.iaload, a, b, w)) (hp : pc + 1 = p) (hA : a_Arr B k 1000 n) (hn : n ≤ 1000000) (h0 : 0 ≤ i ∧ i < n) (hv : Value.int (s k i.toNat) = iv v) (K : a_W d y p ls (iv v :: st) (mkH B s l) Q) : a_W d y pc ls (iv i :: .ref k :: st) (mkH B s l) Q := by
  subst hp
  exact w_st hc (by
    show a_go _ _ _ (if _ then _ else _) = _
    obtain ⟨q1, q2⟩ := hA
    rw [if_pos (show _ ∧ _ ∧ _ from ⟨Or.inl q1, by show (B.2.2.1 _).1 = _; rw [q2], by show a_in _ (B.2.2.1 _).2 = _; rw [q2]; exact inC h0.1 h0.2 hn⟩)]
    rw [toN h0.1 (by omega), hv]
    rfl) K
theorem w_ba {k n : Nat} {i v : Int} (hc : aCode y pc = some (.baload, a, b, w)) (hp : pc + 1 = p) (hA : a_Arr B k 1001 n) (hn : n ≤ 1000000) (h0 : 0 ≤ i ∧ i < n) (hv : Value.int (s k i.toNat) = iv v) (K : a_W d y p ls (iv v :: st) (mkH B s l) Q) : a_W d y pc ls (iv i :: .ref k :: st) (mkH B s l) Q := by
  subst hp
  exact w_st hc (by
    show a_go _ _ _ (if _ then _ else _) = _
    obtain ⟨q1, q2⟩ := hA
    rw [if_pos (show _ ∧ _ ∧ _ from ⟨Or.inl q1, by show (B.2.2.1 _).1 = _; rw [q2], by show a_in _ (B.2.2.1 _).2 = _; rw [q2]; exact inC h0.1 h0.2 hn⟩)]
    rw [toN h0.1 (by omega), hv]
    rfl) K
theorem w_la {k n : Nat} {i : Int} (hc : aCode y pc = some (.laload, a, b, w)) (hp : pc + 1 = p) (hA : a_Arr B k 1004 n) (hn : n ≤ 1000000) (h0 : 0 ≤ i ∧ i < n) (K : a_W d y p ls (.long (l k i.toNat) :: st) (mkH B s l) Q) : a_W d y pc ls (iv i :: .ref k :: st) (mkH B s l) Q := by
  subst hp
  exact w_st hc (by
    show a_go _ _ _ (if _ then _ else _) = _
    obtain ⟨q1, q2⟩ := hA
    rw [if_pos (show _ ∧ _ ∧ _ from ⟨q1, by show (B.2.2.1 _).1 = _; rw [q2], by show a_in _ (B.2.2.1 _).2 = _; rw [q2]; exact inC h0.1 h0.2 hn⟩)]
    rw [toN h0.1 (by omega)]
    rfl) K
theorem w_ias {k n : Nat} {i z : Int} (hc : aCode y pc = some (.iastore, a, b, w)) (hp : pc + 1 = p) (hA : a_Arr B k 1000 n) (hn : n ≤ 1000000) (h0 : 0 ≤ i ∧ i < n) (K : a_W d y p ls st (mkH B (zu s k i.toNat z) l) Q) : a_W d y pc ls (iv z :: iv i :: .ref k :: st) (mkH B s l) Q := by
  subst hp
  exact w_st hc (by
    show (if _ then _ else _) = _
    obtain ⟨q1, q2⟩ := hA
    rw [if_pos (show _ ∧ _ ∧ _ from ⟨q1, by show (B.2.2.1 _).1 = _; rw [q2], by show a_in _ (B.2.2.1 _).2 = _; rw [q2]; exact inC h0.1 h0.2 hn⟩)]
    rw [toN h0.1 (by omega)]
    rfl) K
theorem w_bas {k n : Nat} {i z v : Int} (hc : aCode y pc = some (.bastore, a, b, w)) (hp : pc + 1 = p) (hA : a_Arr B k 1001 n) (hn : n ≤ 1000000) (h0 : 0 ≤ i ∧ i < n) (hz : vp_nar .byte (Int32.ofInt z) = Int32.ofInt v) (K : a_W d y p ls st (mkH B (zu s k i.toNat v) l) Q) : a_W d y pc ls (iv z :: iv i :: .ref k :: st) (mkH B s l) Q := by
  subst hp
  exact w_st hc (by
    show (if _ then _ else _) = _
    obtain ⟨q1, q2⟩ := hA
    rw [if_pos (show _ ∧ _ ∧ _ from ⟨q1, by show (B.2.2.1 _).1 = _; rw [q2], by show a_in _ (B.2.2.1 _).2 = _; rw [q2]; exact inC h0.1 h0.2 hn⟩)]
    rw [toN h0.1 (by omega)]
    show some (Sum.inl (pc + 1, ls, st, a_setI (mkH B s l) k i.toNat (vp_nar .byte (Int32.ofInt z)))) = _
    rw [hz]
    rfl) K
theorem w_las {k n : Nat} {i : Int} {z : Int64} (hc : aCode y pc = some (.lastore, a, b, w)) (hp : pc + 1 = p) (hA : a_Arr B k 1004 n) (hn : n ≤ 1000000) (h0 : 0 ≤ i ∧ i < n) (K : a_W d y p ls st (mkH B s (a_up l k i.toNat z)) Q) : a_W d y pc ls (.long z :: iv i :: .ref k :: st) (mkH B s l) Q := by
  subst hp
  exact w_st hc (by
    show (if _ then _ else _) = _
    obtain ⟨q1, q2⟩ := hA
    rw [if_pos (show _ ∧ _ ∧ _ from ⟨q1, by show (B.2.2.1 _).1 = _; rw [q2], by show a_in _ (B.2.2.1 _).2 = _; rw [q2]; exact inC h0.1 h0.2 hn⟩)]
    rw [toN h0.1 (by omega)]
    rfl) K
theorem w_len {k n c : Nat} (hc : aCode y pc = some (.arraylength, a, b, w)) (hp : pc + 1 = p) (hA : a_Arr B k c n) (hcc : c = 1000 ∨ c = 1001 ∨ c = 1004) (K : a_W d y p ls (iv n :: st) (mkH B s l) Q) : a_W d y pc ls (.ref k :: st) (mkH B s l) Q := by
  subst hp
  exact w_st hc (by
    show a_go _ _ _ (if _ then _ else _) = _
    obtain ⟨q1, q2⟩ := hA
    rw [if_pos (show _ ∨ _ from Or.inl ⟨q1, by show (B.2.2.1 _).1 = _ ∨ (B.2.2.1 _).1 = _ ∨ (B.2.2.1 _).1 = _; rw [q2]; exact hcc⟩)]
    show some (Sum.inl (pc + 1, ls, Value.int (Int32.ofNat (B.2.2.1 _).2) :: st, _)) = _
    rw [q2]
    rfl) K
theorem w_lc0 (hc : aCode y pc = some (.lconst 0, a, b, w)) (hp : pc + 1 = p) (K : a_W d y p ls (.long 0 :: st) h Q) : a_W d y pc ls st h Q := by
  subst hp
  exact w_st hc rfl K
theorem w_i2l {x : Int} (hc : aCode y pc = some (.i2l, a, b, w)) (hp : pc + 1 = p) (K : a_W d y p ls (.long (Int32.ofInt x).toInt64 :: st) h Q) : a_W d y pc ls (iv x :: st) h Q := by
  subst hp
  exact w_st hc rfl K
theorem w_lor {x z : Int64} (hc : aCode y pc = some (.lor, a, b, w)) (hp : pc + 1 = p) (K : a_W d y p ls (.long (x ||| z) :: st) h Q) : a_W d y pc ls (.long z :: .long x :: st) h Q := by
  subst hp
  exact w_st hc rfl K
theorem w_lshl {x : Int64} {z : Int} (hc : aCode y pc = some (.lshl, a, b, w)) (hp : pc + 1 = p) (K : a_W d y p ls (.long (x <<< ((Int32.ofInt z).toInt64 &&& 63)) :: st) h Q) : a_W d y pc ls (iv z :: .long x :: st) h Q := by
  subst hp
  exact w_st hc rfl K
theorem w_lcmp {x z : Int64} (hc : aCode y pc = some (.lcmp, a, b, w)) (hp : pc + 1 = p) (K : a_W d y p ls (iv (lg_cmp x z).toInt :: st) h Q) : a_W d y pc ls (.long z :: .long x :: st) h Q := by
  subst hp
  exact w_st hc (show some (Sum.inl (pc + 1, ls, Value.int (lg_cmp x z) :: st, h)) = _ by rw [iv_i]) K
theorem w_ret {z : Int} (hc : aCode y pc = some (.ireturn, a, b, w)) (hr : a_rok y (.inl (some (iv z)), h) = true) (K : Q (.inl (some (iv z)), h)) : a_W d y pc ls [iv z] h Q := w_en hc rfl hr K
theorem w_rv (hc : aCode y pc = some (.return_, a, b, w)) (hr : a_rok y (.inl none, h) = true) (K : Q (.inl none, h)) : a_W d y pc ls [] h Q := w_en hc rfl hr K
theorem w_call {z : Nat} {i : Instr} {as as' : List Value} {mz : aMe} {lz : List Value} (hc : aCode y pc = some (i, z, b, w)) (hi : a_isC i = true) (hz : aMeL[z]? = some mz) (hz0 : z ≠ 1000) (hok : a_ok mz as h = true) (hb : as.length = b / 2) (hr : as.reverse = as') (hsum : (st.map fun v => v.category).sum ≤ 8) (hd : 0 < d) (hlz : a_loc mz as = lz) (hp : pc + 3 = p)
    (hk : a_W (d - 1) z 0 lz [] h (fun r => ∃ v h2, r = (.inl v, h2) ∧ a_W d y p ls (v.toList ++ st) h2 Q)) : a_W d y pc ls (as' ++ st) h Q := by
  subst hlz
  subst hp
  subst hr
  obtain ⟨n, r, hn, v, h2, rfl, m, r2, hm, hq⟩ := hk
  obtain ⟨e, rfl⟩ : ∃ e, d = e + 1 := ⟨d - 1, by omega⟩
  obtain ⟨k, hk2⟩ := a_Ev.call (d := e) hc hi hz hz0 hok hb hsum ⟨n, hn⟩ ⟨m, hm⟩
  exact ⟨k, r2, hk2, hq⟩
theorem a_ok_s {mz : aMe} {as : List Value} (h1 : (decide (as.length = mz.2.2.2.2.2.1 ∧ as.length ≤ mz.2.2.1) && as.all (fun v => decide (v.category = 1))) = true) (h2 : mz.2.2.2.2.1 = true) : a_ok mz as h = true := by
  unfold a_ok
  rw [h1, h2]
  rfl
theorem a_ok_i {mz : aMe} {k c n : Nat} {as : List Value} (h1 : (decide ((Value.ref k :: as).length = mz.2.2.2.2.2.1 ∧ (Value.ref k :: as).length ≤ mz.2.2.1) && (Value.ref k :: as).all (fun v => decide (v.category = 1))) = true) (hA : a_Arr B k c n) (h2 : c = mz.2.2.2.2.2.2.1) : a_ok mz (.ref k :: as) (mkH B s l) = true := by
  unfold a_ok
  rw [h1]
  have : decide (k < (mkH B s l).1 ∧ ((mkH B s l).2.2.1 k).1 = mz.2.2.2.2.2.2.1) = true := by
    rw [decide_eq_true_eq]
    exact ⟨hA.1, by show (B.2.2.1 k).1 = _; rw [hA.2]; exact h2⟩
  show (true && (_ || decide (k < (mkH B s l).1 ∧ ((mkH B s l).2.2.1 k).1 = mz.2.2.2.2.2.2.1))) = true
  rw [this, Bool.or_true]
  rfl
theorem w_jdk {z : Nat} {i : Instr} {as as' : List Value} {v : Option Value} {h2 : aH} (hc : aCode y pc = some (i, z, b, w)) (hp : pc + 3 = p) (hi : a_isC i = true) (hz : aMeL[z]? = none) (hz0 : z ≠ 1000) (hb : as.length = b / 2) (hr : as.reverse = as') (hsum : (st.map fun v => v.category).sum ≤ 8) (hd : 0 < d) (hj : a_jdk z as h = some (.inl v, h2)) (K : a_W d y p ls (v.toList ++ st) h2 Q) : a_W d y pc ls (as' ++ st) h Q := by
  subst hp
  subst hr
  obtain ⟨m, r2, hm, hq⟩ := K
  obtain ⟨e, rfl⟩ : ∃ e, d = e + 1 := ⟨d - 1, by omega⟩
  refine ⟨m + 1, r2, ?_, hq⟩
  rw [a_run_succ, hc]
  dsimp only
  rw [a_step_inv hi hz0]
  unfold a_inv
  have hl : as.reverse.length = b / 2 := by rw [List.length_reverse]; exact hb
  have e1 : (as.reverse ++ st).take (b / 2) = as.reverse := by rw [← hl]; exact List.take_left
  have e2 : (as.reverse ++ st).drop (b / 2) = st := by rw [← hl]; exact List.drop_left
  rw [e1, e2, if_pos ⟨by rw [List.length_append]; omega, hsum⟩, List.reverse_reverse]
  have hcall : a_call m (e + 1) z as h = some (.inl v, h2) := by
    unfold a_call
    dsimp only
    rw [hz]
    exact hj
  rw [hcall]
  dsimp only
  exact hm
theorem w_max {x z : Int} {i : Instr} (hc : aCode y pc = some (i, 1001, 4, w)) (hp : pc + 3 = p) (hi : a_isC i = true) (hx : inR x) (hz : inR z) (hsum : (st.map fun v => v.category).sum ≤ 8) (hd : 0 < d) (K : a_W d y p ls (iv (max x z) :: st) h Q) : a_W d y pc ls (iv z :: iv x :: st) h Q := by
  subst hp
  refine w_jdk (as := [iv x, iv z]) (v := some (iv (max x z))) (h2 := h) hc rfl hi rfl (by decide) rfl rfl hsum hd ?_ K
  show some (Sum.inl (some (Value.int (if Int32.ofInt x < Int32.ofInt z then Int32.ofInt z else Int32.ofInt x))), h) = _
  by_cases hl : x < z
  · rw [if_pos ((ofI_lt hx hz).mpr hl), Int.max_eq_right (by omega)]
  · rw [if_neg (fun e => hl ((ofI_lt hx hz).mp e)), Int.max_eq_left (by omega)]
theorem w_min {x z : Int} {i : Instr} (hc : aCode y pc = some (i, 1002, 4, w)) (hp : pc + 3 = p) (hi : a_isC i = true) (hx : inR x) (hz : inR z) (hsum : (st.map fun v => v.category).sum ≤ 8) (hd : 0 < d) (K : a_W d y p ls (iv (min x z) :: st) h Q) : a_W d y pc ls (iv z :: iv x :: st) h Q := by
  subst hp
  refine w_jdk (as := [iv x, iv z]) (v := some (iv (min x z))) (h2 := h) hc rfl hi rfl (by decide) rfl rfl hsum hd ?_ K
  show some (Sum.inl (some (Value.int (if Int32.ofInt z < Int32.ofInt x then Int32.ofInt z else Int32.ofInt x))), h) = _
  by_cases hl : z < x
  · rw [if_pos ((ofI_lt hz hx).mpr hl), Int.min_eq_right (by omega)]
  · rw [if_neg (fun e => hl ((ofI_lt hz hx).mp e)), Int.min_eq_left (by omega)]
theorem w_thr {i : Nat} (hc : aCode y pc = some (.new i, a, 1, w)) (hn : h.1 + 1 < aSc) (hr : a_rok y (.inr a, a_mk a 6 h) = true) (K : Q (.inr a, a_mk a 6 h)) : a_W d y pc ls [] h Q := w_en hc (by
  show (if h.1 + 1 < aSc ∧ ([] : List Value).isEmpty = true then some (Sum.inr (Sum.inr a, a_mk a 6 h)) else none) = _
  rw [if_pos ⟨hn, rfl⟩]) hr K
theorem w_sw {x : Int} {i : Instr} (hc : aCode y pc = some (i, a, b, w)) (hx : inR x) (hi : ∀ g : aH, a_step a_nc false pc i a b ls (.int (Int32.ofInt x) :: st) g = some (.inl (p, ls, st, g))) (K : a_W d y p ls st h Q) : a_W d y pc ls (iv x :: st) h Q := w_st hc (hi h) K
end
theorem lc0 {x z : Int64} (h : x = z) : (lg_cmp x z).toInt = 0 := by
  subst h
  unfold lg_cmp
  simp
theorem lc1 {x z : Int64} (h : ¬ x = z) : (lg_cmp x z).toInt ≠ 0 := by
  unfold lg_cmp
  rw [if_neg h]
  split
  · decide
  · decide
theorem inR_max {x z : Int} (hx : inR x) (hz : inR z) : inR (max x z) := ⟨by omega, by omega⟩
theorem inR_min {x z : Int} (hx : inR x) (hz : inR z) : inR (min x z) := ⟨by omega, by omega⟩
theorem inR_nat {n : Nat} (hn : n ≤ 1000000) : inR (n : Int) := ⟨by omega, by omega⟩
theorem rok_b {y : Nat} {my : aMe} {z : Int} {h : aH} (hm : aMeL[y]? = some my) (hb : my.2.2.2.1 = some .boolean) (hz : z = 0 ∨ z = 1) : a_rok y (.inl (some (iv z)), h) = true := by
  unfold a_rok
  rw [hm]
  dsimp only
  rw [hb]
  rcases hz with rfl | rfl <;> rfl
theorem nar_b {z : Int} (h : -128 ≤ z ∧ z ≤ 127) : vp_nar .byte (Int32.ofInt z) = Int32.ofInt z := by
  rw [vp_nar_byte]
  apply Int32.toInt_inj.mp
  rw [Int8.toInt_toInt32, Int32.toInt_toInt8, toI ⟨by omega, by omega⟩]
  exact Int.bmod_eq_of_le (by omega) (by omega)
