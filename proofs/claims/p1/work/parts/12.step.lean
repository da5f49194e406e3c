/-! ONE STEP: what the abstract machine does, the real one does. First what needs no words of the tables -/
def a_Fx (my : aMe) (p : Program) (R : Room) (s : State) (m : MethodId) (args : Array Value) (meth : Method) (c : Code) (d : Nat) : Prop :=
  p.tables.exec = Jvm.exec ∧ c.code = my.2.1 ∧ c.maxLocals = my.2.2.1 ∧ s.vm.findClass my.1.cls = some m.cls ∧ (∀ w ∈ lw_good, w.before args s = true) ∧ meth.sig.returnType = my.2.2.2.1 ∧ meth.locks = false ∧ (my.1.name = "<init>" → meth.name = "<init>") ∧ d + 16 ≤ R.frames ∧ d * 64 + 1000 ≤ R.locals ∧ (∀ w ∈ lw_tbl, a_isN w = true → va_Nw w s)
def a_Sx (base : Nat) (cs : Nat → Nat) (s : State) (h : aH) : Prop := (h.2.2.1 aSc).1 = 1000 → va_X (cs 0) (h.2.2.1 aSc).2 (h.2.2.2.1 aSc) s s.heap ∧ cs 0 < base
def a_M (base : Nat) (cs : Nat → Nat) (D : va_G) (cA : Nat → ClassId) (s : State) (my : aMe) (c0 : Nat × Nat) (ls : List Value) (h : aH) (H : Heap) (locs : List Loc) (cells slots : Nat) (lsA : Array Slot) : Prop :=
  a_Sim base cs D cA h H ∧ (base ≤ s.heap.size ∧ ∀ q, q < base → H[q]? = s.heap[q]?) ∧ (∀ x ∈ locs, base ≤ x.base) ∧ a_ls base cs my.2.2.1 ls lsA ∧ (c0.1 + cells = h.2.1.1 ∧ c0.2 + slots = h.2.1.2) ∧ a_Sx base cs s h
/-- from here the real machine comes to Q, in every heap that is as the abstract one says -/
def a_G (base : Nat) (cs : Nat → Nat) (D : va_G) (cA : Nat → ClassId) (my : aMe) (c0 : Nat × Nat) (p : Program) (l : Launch) (e : Env) (R : Room) (s : State) (m : MethodId) (args : Array Value) (below : List Frame) (meth : Method) (c : Code) (Q : State → Prop) (pc : Nat) (ls st : List Value) (h : aH) : Prop :=
  ∀ (H : Heap) (locs : List Loc) (cells slots : Nat) (lsA : Array Slot), a_M base cs D cA s my c0 ls h H locs cells slots lsA → W p l e R s m args below meth c H locs cells slots Q (F0 m pc lsA (st.map (a_cv base cs)))
theorem a_go_inv {pc pc' : Nat} {ls ls' st' : List Value} {h h' : aH} {o : Option (List Value)} (hs : a_go pc ls h o = some (.inl (pc', ls', st', h'))) : o = some st' ∧ pc' = pc ∧ ls' = ls ∧ h' = h := by
  cases o with
  | none => cases hs
  | some st => cases hs; exact ⟨rfl, rfl, rfl, rfl⟩
theorem a_bin_inv {f : Int32 → Int32 → Int32} {st st' : List Value} (hs : a_bin f st = some st') : ∃ x y r, st = .int y :: .int x :: r ∧ st' = .int (f x y) :: r := by
  unfold a_bin at hs
  split at hs
  · cases hs; exact ⟨_, _, _, rfl, rfl⟩
  · cases hs
theorem a_un_inv {f : Int32 → Int32} {st st' : List Value} (hs : a_un f st = some st') : ∃ x r, st = .int x :: r ∧ st' = .int (f x) :: r := by
  unfold a_un at hs
  split at hs
  · cases hs; exact ⟨_, _, rfl, rfl⟩
  · cases hs
theorem a_ldi_inv {ls st st' : List Value} {i : Nat} (hs : a_ldi ls st i = some st') : ∃ x, ls[i]? = some (.int x) ∧ st' = .int x :: st := by
  unfold a_ldi at hs
  split at hs
  · rename_i x hx; cases hs; exact ⟨x, hx, rfl⟩
  · cases hs
theorem a_lda_inv {ls st st' : List Value} {i : Nat} (hs : a_lda ls st i = some st') : (∃ k, ls[i]? = some (.ref k) ∧ st' = .ref k :: st) ∨ (ls[i]? = some .null ∧ st' = .null :: st) := by
  unfold a_lda at hs
  split at hs
  · rename_i k hx; cases hs; exact Or.inl ⟨k, hx, rfl⟩
  · rename_i hx; cases hs; exact Or.inr ⟨hx, rfl⟩
  · cases hs
section AG1
variable {base : Nat} {cs : Nat → Nat} {D : va_G} {cA : Nat → ClassId} {my : aMe} {c0 : Nat × Nat} {p : Program} {l : Launch} {e : Env} {R : Room} {s : State} {m : MethodId} {args : Array Value} {below : List Frame} {meth : Method} {c : Code} {Q : State → Prop} {pc pc' : Nat} {ls st ls' st' : List Value} {h h' : aH} {d : Nat}
theorem s_iconst {n : Int} (F : a_Fx my p R s m args meth c d) (hd : decode my.2.1 pc = .ok (.iconst n, 1)) (k : a_G base cs D cA my c0 p l e R s m args below meth c Q (pc + 1) ls (.int (Int32.ofInt n) :: st) h) : a_G base cs D cA my c0 p l e R s m args below meth c Q pc ls st h :=
  fun H locs cells slots lsA M => lv_iconst F.1 F.2.1 hd rfl (k H locs cells slots lsA M)
theorem s_bipush {n : Int} (F : a_Fx my p R s m args meth c d) (hd : decode my.2.1 pc = .ok (.bipush n, 2)) (k : a_G base cs D cA my c0 p l e R s m args below meth c Q (pc + 2) ls (.int (Int8.ofInt n).toInt32 :: st) h) : a_G base cs D cA my c0 p l e R s m args below meth c Q pc ls st h :=
  fun H locs cells slots lsA M => lv_bipush F.1 F.2.1 hd rfl (k H locs cells slots lsA M)
theorem s_sipush {n : Int} (F : a_Fx my p R s m args meth c d) (hd : decode my.2.1 pc = .ok (.sipush n, 3)) (k : a_G base cs D cA my c0 p l e R s m args below meth c Q (pc + 3) ls (.int (Int16.ofInt n).toInt32 :: st) h) : a_G base cs D cA my c0 p l e R s m args below meth c Q pc ls st h :=
  fun H locs cells slots lsA M => lv_sipush F.1 F.2.1 hd rfl (k H locs cells slots lsA M)
theorem s_lconst {n : Fin 2} (F : a_Fx my p R s m args meth c d) (hd : decode my.2.1 pc = .ok (.lconst n, 1)) (k : a_G base cs D cA my c0 p l e R s m args below meth c Q (pc + 1) ls (.long (Int64.ofNat n.val) :: st) h) : a_G base cs D cA my c0 p l e R s m args below meth c Q pc ls st h :=
  fun H locs cells slots lsA M => lv_lconst F.1 F.2.1 hd rfl (k H locs cells slots lsA M)
theorem s_iload {n : Nat} (F : a_Fx my p R s m args meth c d) (hd : decode my.2.1 pc = .ok (.iload n, 2)) (hs : a_ldi ls st n = some st') (k : a_G base cs D cA my c0 p l e R s m args below meth c Q (pc + 2) ls st' h) : a_G base cs D cA my c0 p l e R s m args below meth c Q pc ls st h := by
  obtain ⟨x, hx, rfl⟩ := a_ldi_inv hs
  exact fun H locs cells slots lsA M => lv_iload F.1 F.2.1 hd (a_ls_at M.2.2.2.1 hx (fun q => by cases q)) (k H locs cells slots lsA M)
theorem s_iload_n {n : Fin 4} (F : a_Fx my p R s m args meth c d) (hd : decode my.2.1 pc = .ok (.iload_n n, 1)) (hs : a_ldi ls st n.val = some st') (k : a_G base cs D cA my c0 p l e R s m args below meth c Q (pc + 1) ls st' h) : a_G base cs D cA my c0 p l e R s m args below meth c Q pc ls st h := by
  obtain ⟨x, hx, rfl⟩ := a_ldi_inv hs
  exact fun H locs cells slots lsA M => lv_iload_n F.1 F.2.1 hd rfl (a_ls_at M.2.2.2.1 hx (fun q => by cases q)) (k H locs cells slots lsA M)
theorem s_aload {n : Nat} (F : a_Fx my p R s m args meth c d) (hd : decode my.2.1 pc = .ok (.aload n, 2)) (hs : a_lda ls st n = some st') (k : a_G base cs D cA my c0 p l e R s m args below meth c Q (pc + 2) ls st' h) : a_G base cs D cA my c0 p l e R s m args below meth c Q pc ls st h := by
  rcases a_lda_inv hs with ⟨x, hx, rfl⟩ | ⟨hx, rfl⟩
  · exact fun H locs cells slots lsA M => lv_aload F.1 F.2.1 hd (a_ls_at M.2.2.2.1 hx (fun q => by cases q)) (k H locs cells slots lsA M)
  · exact fun H locs cells slots lsA M => lv_aloadN F.1 F.2.1 hd (a_ls_at M.2.2.2.1 hx (fun q => by cases q)) (k H locs cells slots lsA M)
theorem s_aload_n {n : Fin 4} (F : a_Fx my p R s m args meth c d) (hd : decode my.2.1 pc = .ok (.aload_n n, 1)) (hs : a_lda ls st n.val = some st') (k : a_G base cs D cA my c0 p l e R s m args below meth c Q (pc + 1) ls st' h) : a_G base cs D cA my c0 p l e R s m args below meth c Q pc ls st h := by
  rcases a_lda_inv hs with ⟨x, hx, rfl⟩ | ⟨hx, rfl⟩
  · exact fun H locs cells slots lsA M => lv_aload_n F.1 F.2.1 hd rfl (a_ls_at M.2.2.2.1 hx (fun q => by cases q)) (k H locs cells slots lsA M)
  · exact fun H locs cells slots lsA M => lv_aload_nN F.1 F.2.1 hd rfl (a_ls_at M.2.2.2.1 hx (fun q => by cases q)) (k H locs cells slots lsA M)
/-- locals are stored -/
theorem a_M.set {i : Nat} {v : Value} {H : Heap} {locs : List Loc} {cells slots : Nat} {lsA lsB : Array Slot} (M : a_M base cs D cA s my c0 ls h H locs cells slots lsA) (hc : v.category = 1) (hi : i < my.2.2.1)
    (hb : lv_has lsB my.2.2.1 ((i, a_cv base cs v) :: (a_prs base cs ls).filter (fun q => !(q.1 == i) && !(q.1 + 1 == i && q.2.category == 2)))) : a_M base cs D cA s my c0 (ls.set i v) h H locs cells slots lsB :=
  ⟨M.1, M.2.1, M.2.2.1, a_ls_set M.2.2.2.1 hc hi hb, M.2.2.2.2⟩
theorem a_sti_inv {i : Nat} (hs : a_sti pc ls st i h = some (.inl (pc', ls', st', h'))) : ∃ x, st = .int x :: st' ∧ i < ls.length ∧ pc' = pc ∧ ls' = ls.set i (.int x) ∧ h' = h := by
  unfold a_sti at hs
  split at hs
  · split at hs
    · rename_i hi; cases hs; exact ⟨_, rfl, hi, rfl, rfl, rfl⟩
    · cases hs
  · cases hs
theorem a_sta_inv {i : Nat} (hs : a_sta pc ls st i h = some (.inl (pc', ls', st', h'))) : (∃ x, st = .ref x :: st' ∧ i < ls.length ∧ pc' = pc ∧ ls' = ls.set i (.ref x) ∧ h' = h) ∨ (st = .null :: st' ∧ i < ls.length ∧ pc' = pc ∧ ls' = ls.set i .null ∧ h' = h) := by
  unfold a_sta at hs
  split at hs
  · split at hs
    · rename_i hi; cases hs; exact Or.inl ⟨_, rfl, hi, rfl, rfl, rfl⟩
    · cases hs
  · split at hs
    · rename_i hi; cases hs; exact Or.inr ⟨rfl, hi, rfl, rfl, rfl⟩
    · cases hs
  · cases hs
theorem s_istore {n : Nat} (F : a_Fx my p R s m args meth c d) (hd : decode my.2.1 pc = .ok (.istore n, 2)) (hs : a_sti (pc + 2) ls st n h = some (.inl (pc', ls', st', h'))) (k : a_G base cs D cA my c0 p l e R s m args below meth c Q pc' ls' st' h') : a_G base cs D cA my c0 p l e R s m args below meth c Q pc ls st h := by
  obtain ⟨x, rfl, hi, rfl, rfl, rfl⟩ := a_sti_inv hs
  exact fun H locs cells slots lsA M => lv_istore F.1 F.2.1 hd (a_ls_has M.2.2.2.1) (by rw [← M.2.2.2.1.2.2.1]; exact hi) rfl (fun lsB hb => k H locs cells slots lsB (M.set (v := .int x) rfl (by rw [← M.2.2.2.1.2.2.1]; exact hi) hb))
theorem s_istore_n {n : Fin 4} (F : a_Fx my p R s m args meth c d) (hd : decode my.2.1 pc = .ok (.istore_n n, 1)) (hs : a_sti (pc + 1) ls st n.val h = some (.inl (pc', ls', st', h'))) (k : a_G base cs D cA my c0 p l e R s m args below meth c Q pc' ls' st' h') : a_G base cs D cA my c0 p l e R s m args below meth c Q pc ls st h := by
  obtain ⟨x, rfl, hi, rfl, rfl, rfl⟩ := a_sti_inv hs
  exact fun H locs cells slots lsA M => lv_istore_n F.1 F.2.1 hd rfl (a_ls_has M.2.2.2.1) (by rw [← M.2.2.2.1.2.2.1]; exact hi) rfl (fun lsB hb => k H locs cells slots lsB (M.set (v := .int x) rfl (by rw [← M.2.2.2.1.2.2.1]; exact hi) hb))
theorem s_astore {n : Nat} (F : a_Fx my p R s m args meth c d) (hd : decode my.2.1 pc = .ok (.astore n, 2)) (hs : a_sta (pc + 2) ls st n h = some (.inl (pc', ls', st', h'))) (k : a_G base cs D cA my c0 p l e R s m args below meth c Q pc' ls' st' h') : a_G base cs D cA my c0 p l e R s m args below meth c Q pc ls st h := by
  rcases a_sta_inv hs with ⟨x, rfl, hi, rfl, rfl, rfl⟩ | ⟨rfl, hi, rfl, rfl, rfl⟩
  · exact fun H locs cells slots lsA M => lv_astore F.1 F.2.1 hd (a_ls_has M.2.2.2.1) (by rw [← M.2.2.2.1.2.2.1]; exact hi) rfl (fun lsB hb => k H locs cells slots lsB (M.set (v := .ref x) rfl (by rw [← M.2.2.2.1.2.2.1]; exact hi) hb))
  · exact fun H locs cells slots lsA M => lv_astoreN F.1 F.2.1 hd (a_ls_has M.2.2.2.1) (by rw [← M.2.2.2.1.2.2.1]; exact hi) rfl (fun lsB hb => k H locs cells slots lsB (M.set (v := .null) rfl (by rw [← M.2.2.2.1.2.2.1]; exact hi) hb))
theorem s_astore_n {n : Fin 4} (F : a_Fx my p R s m args meth c d) (hd : decode my.2.1 pc = .ok (.astore_n n, 1)) (hs : a_sta (pc + 1) ls st n.val h = some (.inl (pc', ls', st', h'))) (k : a_G base cs D cA my c0 p l e R s m args below meth c Q pc' ls' st' h') : a_G base cs D cA my c0 p l e R s m args below meth c Q pc ls st h := by
  rcases a_sta_inv hs with ⟨x, rfl, hi, rfl, rfl, rfl⟩ | ⟨rfl, hi, rfl, rfl, rfl⟩
  · exact fun H locs cells slots lsA M => lv_astore_n F.1 F.2.1 hd rfl (a_ls_has M.2.2.2.1) (by rw [← M.2.2.2.1.2.2.1]; exact hi) rfl (fun lsB hb => k H locs cells slots lsB (M.set (v := .ref x) rfl (by rw [← M.2.2.2.1.2.2.1]; exact hi) hb))
  · exact fun H locs cells slots lsA M => lv_astore_nN F.1 F.2.1 hd rfl (a_ls_has M.2.2.2.1) (by rw [← M.2.2.2.1.2.2.1]; exact hi) rfl (fun lsB hb => k H locs cells slots lsB (M.set (v := .null) rfl (by rw [← M.2.2.2.1.2.2.1]; exact hi) hb))
theorem s_iinc {n : Nat} {z : Int} (F : a_Fx my p R s m args meth c d) (hd : decode my.2.1 pc = .ok (.iinc n z, 3)) (hs : a_inc (pc + 3) ls st n z h = some (.inl (pc', ls', st', h'))) (k : a_G base cs D cA my c0 p l e R s m args below meth c Q pc' ls' st' h') : a_G base cs D cA my c0 p l e R s m args below meth c Q pc ls st h := by
  unfold a_inc at hs
  split at hs
  · rename_i x hx
    cases hs
    intro H locs cells slots lsA M
    have hi : n < my.2.2.1 := by rw [← M.2.2.2.1.2.2.1]; exact (List.getElem?_eq_some_iff.mp hx).1
    obtain ⟨j, hj⟩ := List.getElem?_of_mem (a_prs_in (base := base) (cs := cs) hx (fun q => by cases q))
    exact lv_iinc F.1 F.2.1 hd (a_ls_has M.2.2.2.1) hj rfl hi rfl (fun lsB hb => k H locs cells slots lsB (M.set (v := .int (x + Int32.ofInt z)) rfl hi hb))
  · cases hs
theorem s_iadd (F : a_Fx my p R s m args meth c d) (hd : decode my.2.1 pc = .ok (.iadd, 1)) (hs : a_bin (fun x y => x + y) st = some st') (k : a_G base cs D cA my c0 p l e R s m args below meth c Q (pc + 1) ls st' h) : a_G base cs D cA my c0 p l e R s m args below meth c Q pc ls st h := by
  obtain ⟨x, y, r, rfl, rfl⟩ := a_bin_inv hs
  exact fun H locs cells slots lsA M => lv_iadd F.1 F.2.1 hd (k H locs cells slots lsA M)
theorem s_isub (F : a_Fx my p R s m args meth c d) (hd : decode my.2.1 pc = .ok (.isub, 1)) (hs : a_bin (fun x y => x - y) st = some st') (k : a_G base cs D cA my c0 p l e R s m args below meth c Q (pc + 1) ls st' h) : a_G base cs D cA my c0 p l e R s m args below meth c Q pc ls st h := by
  obtain ⟨x, y, r, rfl, rfl⟩ := a_bin_inv hs
  exact fun H locs cells slots lsA M => lv_isub F.1 F.2.1 hd (k H locs cells slots lsA M)
theorem s_imul (F : a_Fx my p R s m args meth c d) (hd : decode my.2.1 pc = .ok (.imul, 1)) (hs : a_bin (fun x y => x * y) st = some st') (k : a_G base cs D cA my c0 p l e R s m args below meth c Q (pc + 1) ls st' h) : a_G base cs D cA my c0 p l e R s m args below meth c Q pc ls st h := by
  obtain ⟨x, y, r, rfl, rfl⟩ := a_bin_inv hs
  exact fun H locs cells slots lsA M => lv_imul F.1 F.2.1 hd (k H locs cells slots lsA M)
theorem s_iand (F : a_Fx my p R s m args meth c d) (hd : decode my.2.1 pc = .ok (.iand, 1)) (hs : a_bin (fun x y => x &&& y) st = some st') (k : a_G base cs D cA my c0 p l e R s m args below meth c Q (pc + 1) ls st' h) : a_G base cs D cA my c0 p l e R s m args below meth c Q pc ls st h := by
  obtain ⟨x, y, r, rfl, rfl⟩ := a_bin_inv hs
  exact fun H locs cells slots lsA M => lv_iand F.1 F.2.1 hd (k H locs cells slots lsA M)
theorem s_iushr (F : a_Fx my p R s m args meth c d) (hd : decode my.2.1 pc = .ok (.iushr, 1)) (hs : a_bin (fun x y => (x.toUInt32 >>> (y.toUInt32 &&& Int32.toUInt32 31)).toInt32) st = some st') (k : a_G base cs D cA my c0 p l e R s m args below meth c Q (pc + 1) ls st' h) : a_G base cs D cA my c0 p l e R s m args below meth c Q pc ls st h := by
  obtain ⟨x, y, r, rfl, rfl⟩ := a_bin_inv hs
  exact fun H locs cells slots lsA M => lv_iushr F.1 F.2.1 hd rfl (k H locs cells slots lsA M)
theorem s_ishr (F : a_Fx my p R s m args meth c d) (hd : decode my.2.1 pc = .ok (.ishr, 1)) (hs : a_bin (fun x y => x >>> (y &&& 31)) st = some st') (k : a_G base cs D cA my c0 p l e R s m args below meth c Q (pc + 1) ls st' h) : a_G base cs D cA my c0 p l e R s m args below meth c Q pc ls st h := by
  obtain ⟨x, y, r, rfl, rfl⟩ := a_bin_inv hs
  exact fun H locs cells slots lsA M => lv_ishr F.1 F.2.1 hd (k H locs cells slots lsA M)
theorem s_i2b (F : a_Fx my p R s m args meth c d) (hd : decode my.2.1 pc = .ok (.i2b, 1)) (hs : a_un (fun x => x.toInt8.toInt32) st = some st') (k : a_G base cs D cA my c0 p l e R s m args below meth c Q (pc + 1) ls st' h) : a_G base cs D cA my c0 p l e R s m args below meth c Q pc ls st h := by
  obtain ⟨x, r, rfl, rfl⟩ := a_un_inv hs
  exact fun H locs cells slots lsA M => lv_i2b F.1 F.2.1 hd rfl (k H locs cells slots lsA M)
theorem s_idiv {x y : Int32} (F : a_Fx my p R s m args meth c d) (hd : decode my.2.1 pc = .ok (.idiv, 1)) (hn : ¬ y = 0) (k : a_G base cs D cA my c0 p l e R s m args below meth c Q (pc + 1) ls (.int (x / y) :: st) h) : a_G base cs D cA my c0 p l e R s m args below meth c Q pc ls (.int y :: .int x :: st) h :=
  fun H locs cells slots lsA M => lv_idiv F.1 F.2.1 hd hn (k H locs cells slots lsA M)
theorem s_irem {x y : Int32} (F : a_Fx my p R s m args meth c d) (hd : decode my.2.1 pc = .ok (.irem, 1)) (hn : ¬ y = 0) (k : a_G base cs D cA my c0 p l e R s m args below meth c Q (pc + 1) ls (.int (x - x / y * y) :: st) h) : a_G base cs D cA my c0 p l e R s m args below meth c Q pc ls (.int y :: .int x :: st) h :=
  fun H locs cells slots lsA M => lv_irem F.1 F.2.1 hd hn (k H locs cells slots lsA M)
theorem s_i2l {x : Int32} (F : a_Fx my p R s m args meth c d) (hd : decode my.2.1 pc = .ok (.i2l, 1)) (k : a_G base cs D cA my c0 p l e R s m args below meth c Q (pc + 1) ls (.long x.toInt64 :: st) h) : a_G base cs D cA my c0 p l e R s m args below meth c Q pc ls (.int x :: st) h :=
  fun H locs cells slots lsA M => lv_i2l F.1 F.2.1 hd rfl (k H locs cells slots lsA M)
theorem s_lor {x y : Int64} (F : a_Fx my p R s m args meth c d) (hd : decode my.2.1 pc = .ok (.lor, 1)) (k : a_G base cs D cA my c0 p l e R s m args below meth c Q (pc + 1) ls (.long (x ||| y) :: st) h) : a_G base cs D cA my c0 p l e R s m args below meth c Q pc ls (.long y :: .long x :: st) h :=
  fun H locs cells slots lsA M => lv_lor F.1 F.2.1 hd (k H locs cells slots lsA M)
theorem s_lshl {x : Int64} {y : Int32} (F : a_Fx my p R s m args meth c d) (hd : decode my.2.1 pc = .ok (.lshl, 1)) (k : a_G base cs D cA my c0 p l e R s m args below meth c Q (pc + 1) ls (.long (x <<< (y.toInt64 &&& 63)) :: st) h) : a_G base cs D cA my c0 p l e R s m args below meth c Q pc ls (.int y :: .long x :: st) h :=
  fun H locs cells slots lsA M => lv_lshl F.1 F.2.1 hd rfl (k H locs cells slots lsA M)
theorem s_dup_i {x : Int32} (F : a_Fx my p R s m args meth c d) (hd : decode my.2.1 pc = .ok (.dup, 1)) (k : a_G base cs D cA my c0 p l e R s m args below meth c Q (pc + 1) ls (.int x :: .int x :: st) h) : a_G base cs D cA my c0 p l e R s m args below meth c Q pc ls (.int x :: st) h :=
  fun H locs cells slots lsA M => lv_dup F.1 F.2.1 hd rfl (k H locs cells slots lsA M)
theorem s_dup_r {x : Nat} (F : a_Fx my p R s m args meth c d) (hd : decode my.2.1 pc = .ok (.dup, 1)) (k : a_G base cs D cA my c0 p l e R s m args below meth c Q (pc + 1) ls (.ref x :: .ref x :: st) h) : a_G base cs D cA my c0 p l e R s m args below meth c Q pc ls (.ref x :: st) h :=
  fun H locs cells slots lsA M => lv_dup F.1 F.2.1 hd rfl (k H locs cells slots lsA M)
theorem s_dup2 {y : Int32} {x : Nat} (F : a_Fx my p R s m args meth c d) (hd : decode my.2.1 pc = .ok (.dup2, 1)) (k : a_G base cs D cA my c0 p l e R s m args below meth c Q (pc + 1) ls (.int y :: .ref x :: .int y :: .ref x :: st) h) : a_G base cs D cA my c0 p l e R s m args below meth c Q pc ls (.int y :: .ref x :: st) h :=
  fun H locs cells slots lsA M => lv_dup2_11 F.1 F.2.1 hd rfl rfl (k H locs cells slots lsA M)
theorem s_pop_i {x : Int32} (F : a_Fx my p R s m args meth c d) (hd : decode my.2.1 pc = .ok (.pop, 1)) (k : a_G base cs D cA my c0 p l e R s m args below meth c Q (pc + 1) ls (st) h) : a_G base cs D cA my c0 p l e R s m args below meth c Q pc ls (.int x :: st) h :=
  fun H locs cells slots lsA M => lv_pop F.1 F.2.1 hd rfl (k H locs cells slots lsA M)
theorem s_pop_r {x : Nat} (F : a_Fx my p R s m args meth c d) (hd : decode my.2.1 pc = .ok (.pop, 1)) (k : a_G base cs D cA my c0 p l e R s m args below meth c Q (pc + 1) ls (st) h) : a_G base cs D cA my c0 p l e R s m args below meth c Q pc ls (.ref x :: st) h :=
  fun H locs cells slots lsA M => lv_pop F.1 F.2.1 hd rfl (k H locs cells slots lsA M)
theorem s_goto {o : Int} {t : Nat} (F : a_Fx my p R s m args meth c d) (hd : decode my.2.1 pc = .ok (.goto o, 3)) (ht : (pc : Int) + o = (t : Int)) (k : a_G base cs D cA my c0 p l e R s m args below meth c Q t ls st h) : a_G base cs D cA my c0 p l e R s m args below meth c Q pc ls st h :=
  fun H locs cells slots lsA M => lv_goto F.1 F.2.1 hd ht (k H locs cells slots lsA M)
theorem s_lcmp {x y : Int64} (F : a_Fx my p R s m args meth c d) (hd : decode my.2.1 pc = .ok (.lcmp, 1)) (k : a_G base cs D cA my c0 p l e R s m args below meth c Q (pc + 1) ls (.int (lg_cmp x y) :: st) h) : a_G base cs D cA my c0 p l e R s m args below meth c Q pc ls (.long y :: .long x :: st) h :=
  fun H locs cells slots lsA M => W.lcmp F.1 F.2.1 hd (k H locs cells slots lsA M)
theorem s_icmp {cc : ClassFile.Cond} {o : Int} {t : Nat} {x y : Int32} (F : a_Fx my p R s m args meth c d) (hd : decode my.2.1 pc = .ok (.if_icmp cc o, 3)) (ht : (pc : Int) + o = (t : Int)) (k : a_G base cs D cA my c0 p l e R s m args below meth c Q (if a_cnd cc x y = true then t else pc + 3) ls st h) : a_G base cs D cA my c0 p l e R s m args below meth c Q pc ls (.int y :: .int x :: st) h := by
  intro H locs cells slots lsA M
  have k := k H locs cells slots lsA M
  cases cc
  · refine lv_icmp_eq F.1 F.2.1 hd ht (fun q => ?_) (fun q => ?_)
    · rw [if_pos (by simpa [a_cnd] using q)] at k; exact k
    · rw [if_neg (by simpa [a_cnd] using q)] at k; exact k
  · refine lv_icmp_ne F.1 F.2.1 hd ht (fun q => ?_) (fun q => ?_)
    · rw [if_pos (by simpa [a_cnd] using q)] at k; exact k
    · rw [if_neg (by simpa [a_cnd] using q)] at k; exact k
  · refine lv_icmp_lt F.1 F.2.1 hd ht (fun q => ?_) (fun q => ?_)
    · rw [if_pos (by simpa [a_cnd] using q)] at k; exact k
    · rw [if_neg (by simpa [a_cnd] using q)] at k; exact k
  · refine lv_icmp_ge F.1 F.2.1 hd ht (fun q => ?_) (fun q => ?_)
    · rw [if_pos (by simpa [a_cnd] using q)] at k; exact k
    · rw [if_neg (by simpa [a_cnd] using q)] at k; exact k
  · refine lv_icmp_gt F.1 F.2.1 hd ht (fun q => ?_) (fun q => ?_)
    · rw [if_pos (by simpa [a_cnd] using q)] at k; exact k
    · rw [if_neg (by simpa [a_cnd] using q)] at k; exact k
  · refine lv_icmp_le F.1 F.2.1 hd ht (fun q => ?_) (fun q => ?_)
    · rw [if_pos (by simpa [a_cnd] using q)] at k; exact k
    · rw [if_neg (by simpa [a_cnd] using q)] at k; exact k
theorem s_ifc {cc : ClassFile.Cond} {o : Int} {t : Nat} {x : Int32} (F : a_Fx my p R s m args meth c d) (hd : decode my.2.1 pc = .ok (.ifCond cc o, 3)) (ht : (pc : Int) + o = (t : Int)) (k : a_G base cs D cA my c0 p l e R s m args below meth c Q (if a_cnd cc x 0 = true then t else pc + 3) ls st h) : a_G base cs D cA my c0 p l e R s m args below meth c Q pc ls (.int x :: st) h := by
  intro H locs cells slots lsA M
  have k := k H locs cells slots lsA M
  cases cc
  · refine lv_if_eq F.1 F.2.1 hd ht (fun q => ?_) (fun q => ?_)
    · rw [if_pos (by simpa [a_cnd] using q)] at k; exact k
    · rw [if_neg (by simpa [a_cnd] using q)] at k; exact k
  · refine lv_if_ne F.1 F.2.1 hd ht (fun q => ?_) (fun q => ?_)
    · rw [if_pos (by simpa [a_cnd] using q)] at k; exact k
    · rw [if_neg (by simpa [a_cnd] using q)] at k; exact k
  · refine lv_if_lt F.1 F.2.1 hd ht (fun q => ?_) (fun q => ?_)
    · rw [if_pos (by simpa [a_cnd] using q)] at k; exact k
    · rw [if_neg (by simpa [a_cnd] using q)] at k; exact k
  · refine lv_if_ge F.1 F.2.1 hd ht (fun q => ?_) (fun q => ?_)
    · rw [if_pos (by simpa [a_cnd] using q)] at k; exact k
    · rw [if_neg (by simpa [a_cnd] using q)] at k; exact k
  · refine lv_if_gt F.1 F.2.1 hd ht (fun q => ?_) (fun q => ?_)
    · rw [if_pos (by simpa [a_cnd] using q)] at k; exact k
    · rw [if_neg (by simpa [a_cnd] using q)] at k; exact k
  · refine lv_if_le F.1 F.2.1 hd ht (fun q => ?_) (fun q => ?_)
    · rw [if_pos (by simpa [a_cnd] using q)] at k; exact k
    · rw [if_neg (by simpa [a_cnd] using q)] at k; exact k
theorem s_tabO {n : Nat} {df lo hi : Int} {offs : Array Int} {x : Int32} (F : a_Fx my p R s m args meth c d) (hd : decode my.2.1 pc = .ok (.tableswitch df lo hi offs, n)) (h0 : 0 ≤ (pc : Int) + df) (hx : x.toInt < lo ∨ hi < x.toInt) (k : a_G base cs D cA my c0 p l e R s m args below meth c Q ((pc : Int) + df).toNat ls st h) : a_G base cs D cA my c0 p l e R s m args below meth c Q pc ls (.int x :: st) h :=
  fun H locs cells slots lsA M => lv_tableOut F.1 F.2.1 hd hx (Int.toNat_of_nonneg h0).symm (k H locs cells slots lsA M)
theorem s_tabI {n : Nat} {df lo hi of : Int} {offs : Array Int} {x : Int32} (F : a_Fx my p R s m args meth c d) (hd : decode my.2.1 pc = .ok (.tableswitch df lo hi offs, n)) (h0 : 0 ≤ (pc : Int) + of) (hx : ¬ (x.toInt < lo ∨ hi < x.toInt)) (ho : offs[(x.toInt - lo).toNat]? = some of) (k : a_G base cs D cA my c0 p l e R s m args below meth c Q ((pc : Int) + of).toNat ls st h) : a_G base cs D cA my c0 p l e R s m args below meth c Q pc ls (.int x :: st) h :=
  fun H locs cells slots lsA M => lv_tableIn F.1 F.2.1 hd (fun q => hx (Or.inl q)) (fun q => hx (Or.inr q)) ho (Int.toNat_of_nonneg h0).symm (k H locs cells slots lsA M)
theorem s_look {n : Nat} {df : Int} {ps : Array (Int × Int)} {x : Int32} (F : a_Fx my p R s m args meth c d) (hd : decode my.2.1 pc = .ok (.lookupswitch df ps, n)) (h0 : 0 ≤ (pc : Int) + a_lk ps.toList df x.toInt) (hp : (ps.toList.zip (ps.toList.drop 1)).all (fun (a, next) => a.1 < next.1) = true) (k : a_G base cs D cA my c0 p l e R s m args below meth c Q ((pc : Int) + a_lk ps.toList df x.toInt).toNat ls st h) : a_G base cs D cA my c0 p l e R s m args below meth c Q pc ls (.int x :: st) h :=
  fun H locs cells slots lsA M => lv_lookup F.1 F.2.1 hd hp rfl (Int.toNat_of_nonneg h0).symm (k H locs cells slots lsA M)
end AG1
