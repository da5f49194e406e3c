/-! AN ABSTRACT MACHINE over this claim's methods: positions for addresses, one function of numbers for the cells. What it answers, the real one answers (parts behind). -/
/-- number of cells; cells and slots made; kind and length of each cell; ints; longs; references (positions) -/
abbrev aH : Type := Nat × (Nat × Nat) × (Nat → Nat × Nat) × (Nat → Nat → Int32) × (Nat → Nat → Int64) × (Nat → Nat → Option Nat)
abbrev aS : Type := Nat × List Value × List Value × aH
abbrev aR : Type := (Option Value ⊕ Nat) × aH
/-- the script's place; from aC0 on: the static table, then the texts -/
def aSc : Nat := 1048575
def aC0 : Nat := 1048576
def a_up {α : Type} (f : Nat → Nat → α) (k i : Nat) (v : α) : Nat → Nat → α := fun a => if a = k then (fun b => if b = i then v else f k b) else f a
def a_new {α : Type} (f : Nat → Nat → α) (k : Nat) (v : α) : Nat → Nat → α := fun a => if a = k then (fun _ => v) else f a
def a_kup (f : Nat → Nat × Nat) (k : Nat) (v : Nat × Nat) : Nat → Nat × Nat := fun a => if a = k then v else f a
/-- a new cell of a kind, with so many slots, that count n -/
def a_mk (c len : Nat) (h : aH) : aH := (h.1 + 1, (h.2.1.1 + 1, h.2.1.2 + len), a_kup h.2.2.1 h.1 (c, len), a_new h.2.2.2.1 h.1 0, a_new h.2.2.2.2.1 h.1 0, a_new h.2.2.2.2.2 h.1 none)
def a_setI (h : aH) (k j : Nat) (x : Int32) : aH := (h.1, h.2.1, h.2.2.1, a_up h.2.2.2.1 k j x, h.2.2.2.2.1, h.2.2.2.2.2)
def a_setL (h : aH) (k j : Nat) (x : Int64) : aH := (h.1, h.2.1, h.2.2.1, h.2.2.2.1, a_up h.2.2.2.2.1 k j x, h.2.2.2.2.2)
def a_setR (h : aH) (k j : Nat) (x : Option Nat) : aH := (h.1, h.2.1, h.2.2.1, h.2.2.2.1, h.2.2.2.2.1, a_up h.2.2.2.2.2 k j x)
/-- a slot's content, by its type's code: 5 a long, 6 a reference, else an int -/
def a_slot (h : aH) (k j t : Nat) : Value := if t = 5 then .long (h.2.2.2.2.1 k j) else if t = 6 then va_rf (h.2.2.2.2.2 k j) else .int (h.2.2.2.1 k j)
def a_un (f : Int32 → Int32) (st : List Value) : Option (List Value) := match st with
  | .int x :: st => some (.int (f x) :: st)
  | _ => none
def a_bin (f : Int32 → Int32 → Int32) (st : List Value) : Option (List Value) := match st with
  | .int y :: .int x :: st => some (.int (f x y) :: st)
  | _ => none
def a_go (pc : Nat) (ls : List Value) (h : aH) (o : Option (List Value)) : Option (aS ⊕ aR) := match o with
  | some st => some (.inl (pc, ls, st, h))
  | none => none
def a_cnd (c : ClassFile.Cond) (x y : Int32) : Bool := match c with
  | .eq => decide (x = y)
  | .ne => decide (¬ x = y)
  | .lt => decide (x < y)
  | .ge => decide (y ≤ x)
  | .gt => decide (y < x)
  | .le => decide (x ≤ y)
def a_ldi (ls st : List Value) (i : Nat) : Option (List Value) := match ls[i]? with
  | some (.int x) => some (.int x :: st)
  | _ => none
def a_lda (ls st : List Value) (i : Nat) : Option (List Value) := match ls[i]? with
  | some (.ref k) => some (.ref k :: st)
  | some .null => some (.null :: st)
  | _ => none
def a_sti (pc : Nat) (ls st : List Value) (i : Nat) (h : aH) : Option (aS ⊕ aR) := match st with
  | .int x :: st => if i < ls.length then some (.inl (pc, ls.set i (.int x), st, h)) else none
  | _ => none
def a_sta (pc : Nat) (ls st : List Value) (i : Nat) (h : aH) : Option (aS ⊕ aR) := match st with
  | .ref k :: st => if i < ls.length then some (.inl (pc, ls.set i (.ref k), st, h)) else none
  | .null :: st => if i < ls.length then some (.inl (pc, ls.set i .null, st, h)) else none
  | _ => none
def a_inc (pc : Nat) (ls st : List Value) (i : Nat) (n : Int) (h : aH) : Option (aS ⊕ aR) := match ls[i]? with
  | some (.int x) => some (.inl (pc, ls.set i (.int (x + Int32.ofInt n)), st, h))
  | _ => none
def a_dup (st : List Value) : Option (List Value) := match st with
  | .int x :: st => some (.int x :: .int x :: st)
  | .ref k :: st => some (.ref k :: .ref k :: st)
  | _ => none
def a_pop (st : List Value) : Option (List Value) := match st with
  | .int _ :: st => some st
  | .ref _ :: st => some st
  | _ => none
/-- getfield: the object's class is c, the slot j, its type's code t -/
def a_getf (c j t : Nat) (st : List Value) (h : aH) : Option (List Value) := match st with
  | .ref k :: st => if k < h.1 ∧ (h.2.2.1 k).1 = c ∧ j < (h.2.2.1 k).2 then some (a_slot h k j t :: st) else none
  | _ => none
/-- what a small type keeps as it is -/
def a_fit (t : Nat) (x : Int32) : Bool := if t = 0 then true else if t = 1 then (x == 0 || x == 1) else false
def a_putf (pc c j t : Nat) (ls st : List Value) (h : aH) : Option (aS ⊕ aR) := match st with
  | .int x :: .ref k :: st => if (k < h.1 ∧ (h.2.2.1 k).1 = c ∧ j < (h.2.2.1 k).2) ∧ t < 5 ∧ a_fit t x = true then some (.inl (pc, ls, st, a_setI h k j x)) else none
  | .ref v :: .ref k :: st => if (k < h.1 ∧ (h.2.2.1 k).1 = c ∧ j < (h.2.2.1 k).2) ∧ t = 6 then some (.inl (pc, ls, st, a_setR h k j (some v))) else none
  | _ => none
def a_in (i : Int32) (n : Nat) : Bool := decide (¬ (i < 0 ∨ n ≤ i.toNatClampNeg))
/-- an int of an array of this kind; the constants' arrays lie from aC0 on -/
def a_ald (c : Nat) (st : List Value) (h : aH) : Option (List Value) := match st with
  | .int i :: .ref k :: st => if (k < h.1 ∨ (k = aSc ∧ c = 1000)) ∧ (h.2.2.1 k).1 = c ∧ a_in i (h.2.2.1 k).2 = true then some (.int (h.2.2.2.1 k i.toNatClampNeg) :: st) else if k = aC0 ∧ c = 1000 ∧ a_in i aTab.length = true then some (.int (aTab.getD i.toNatClampNeg 0) :: st) else none
  | _ => none
def a_aldL (st : List Value) (h : aH) : Option (List Value) := match st with
  | .int i :: .ref k :: st => if k < h.1 ∧ (h.2.2.1 k).1 = 1004 ∧ a_in i (h.2.2.1 k).2 = true then some (.long (h.2.2.2.2.1 k i.toNatClampNeg) :: st) else none
  | _ => none
def a_ast (c : Nat) (f : Int32 → Int32) (pc : Nat) (ls st : List Value) (h : aH) : Option (aS ⊕ aR) := match st with
  | .int x :: .int i :: .ref k :: st => if k < h.1 ∧ (h.2.2.1 k).1 = c ∧ a_in i (h.2.2.1 k).2 = true then some (.inl (pc, ls, st, a_setI h k i.toNatClampNeg (f x))) else none
  | _ => none
def a_astL (pc : Nat) (ls st : List Value) (h : aH) : Option (aS ⊕ aR) := match st with
  | .long x :: .int i :: .ref k :: st => if k < h.1 ∧ (h.2.2.1 k).1 = 1004 ∧ a_in i (h.2.2.1 k).2 = true then some (.inl (pc, ls, st, a_setL h k i.toNatClampNeg x)) else none
  | _ => none
def a_len (st : List Value) (h : aH) : Option (List Value) := match st with
  | .ref k :: st => if (k < h.1 ∧ ((h.2.2.1 k).1 = 1000 ∨ (h.2.2.1 k).1 = 1001 ∨ (h.2.2.1 k).1 = 1004)) ∨ (k = aSc ∧ (h.2.2.1 k).1 = 1000) then some (.int (Int32.ofNat (h.2.2.1 k).2) :: st) else none
  | _ => none
def a_acode (t : ArrayType) : Nat := match t with
  | .int => 1000
  | .byte => 1001
  | .long => 1004
  | _ => 1006
def a_newa (t : ArrayType) (pc : Nat) (ls st : List Value) (h : aH) : Option (aS ⊕ aR) := match st with
  | .int x :: st => if ¬ x < 0 ∧ x.toNatClampNeg ≤ 1000000 ∧ h.1 + 1 < aSc ∧ a_acode t < 1006 then some (.inl (pc, ls, .ref h.1 :: st, a_mk (a_acode t) x.toNatClampNeg h)) else none
  | _ => none
/-- a call: its arguments are the upper b of the stack; what lies below is small -/
def a_inv (call : Nat → List Value → aH → Option aR) (ct : Bool) (a b pc : Nat) (ls st : List Value) (h : aH) : Option (aS ⊕ aR) :=
  if b ≤ st.length ∧ ((st.drop b).map fun v => v.category).sum ≤ 8 then
    match call a (st.take b).reverse h with
    | some (.inl v, h') => some (.inl (pc, ls, v.toList ++ st.drop b, h'))
    | some (.inr _, h') => if ct = true then some (.inr (.inl (some (.int 1)), h')) else none
    | none => none
  else none
def a_setS (pc : Nat) (ls st : List Value) (h : aH) : Option (aS ⊕ aR) := some (.inl (pc, ls, st, h))
/-- the texts that the class and the reference name; from aC0 + 1 on -/
def a_chr (k : Nat) (i : Int32) : Option Int32 := if k < aC0 + 1 then none else match aStr[k - (aC0 + 1)]? with
  | some l => if a_in i l.length = true then some (Int32.ofNat (l.getD i.toNatClampNeg 0)) else none
  | none => none
/-- the JDK's own methods that are called: Math.max, Math.min, String.length, String.charAt, System.arraycopy -/
def a_jdk (y : Nat) (as : List Value) (h : aH) : Option aR := match as with
  | [.int x, .int z] => if y = 1001 then some (.inl (some (.int (if x < z then z else x))), h) else if y = 1002 then some (.inl (some (.int (if z < x then z else x))), h) else none
  | [.ref k] => if y = 1003 ∧ aC0 < k then (match aStr[k - (aC0 + 1)]? with
    | some l => some (.inl (some (.int (Int32.ofNat l.length))), h)
    | none => none) else none
  | [.ref k, .int i] => if y = 1004 then (match a_chr k i with
    | some v => some (.inl (some (.int v)), h)
    | none => none) else none
  | [.ref k, .int sp, .ref k2, .int dp, .int n] => if y = 1005 ∧ k = aC0 ∧ k2 < h.1 ∧ (h.2.2.1 k2).1 = 1000 ∧ ¬ sp < 0 ∧ ¬ dp < 0 ∧ ¬ n < 0 ∧ sp.toNatClampNeg + n.toNatClampNeg ≤ aTab.length ∧ dp.toNatClampNeg + n.toNatClampNeg ≤ (h.2.2.1 k2).2 then
      some (.inl none, (h.1, h.2.1, h.2.2.1, (fun a => if a = k2 then va_cpy (fun j => aTab.getD j 0) (h.2.2.2.1 k2) sp.toNatClampNeg dp.toNatClampNeg n.toNatClampNeg else h.2.2.2.1 a), h.2.2.2.2.1, h.2.2.2.2.2)) else none
  | _ => none
def a_lk (ps : List (Int × Int)) (d : Int) (x : Int) : Int := Op.lookupswitch.offset ps d x
/-- one instruction, with what its two numbers say of the constant pool -/
def a_step (call : Nat → List Value → aH → Option aR) (ct : Bool) (pc : Nat) (i : Instr) (a b : Nat) (ls st : List Value) (h : aH) : Option (aS ⊕ aR) := match i with
  | .iconst n => some (.inl (pc + 1, ls, .int (Int32.ofInt n) :: st, h))
  | .bipush n => some (.inl (pc + 2, ls, .int (Int8.ofInt n).toInt32 :: st, h))
  | .sipush n => some (.inl (pc + 3, ls, .int (Int16.ofInt n).toInt32 :: st, h))
  | .lconst n => some (.inl (pc + 1, ls, .long (Int64.ofNat n.val) :: st, h))
  | .ldc _ => if b = 0 then some (.inl (pc + 2, ls, .int (Int32.ofNat a) :: st, h)) else some (.inl (pc + 2, ls, .ref (aC0 + a) :: st, h))
  | .ldc_w _ => if b = 0 then some (.inl (pc + 3, ls, .int (Int32.ofNat a) :: st, h)) else some (.inl (pc + 3, ls, .ref (aC0 + a) :: st, h))
  | .iload n => a_go (pc + 2) ls h (a_ldi ls st n)
  | .iload_n n => a_go (pc + 1) ls h (a_ldi ls st n.val)
  | .aload n => a_go (pc + 2) ls h (a_lda ls st n)
  | .aload_n n => a_go (pc + 1) ls h (a_lda ls st n.val)
  | .istore n => a_sti (pc + 2) ls st n h
  | .istore_n n => a_sti (pc + 1) ls st n.val h
  | .astore n => a_sta (pc + 2) ls st n h
  | .astore_n n => a_sta (pc + 1) ls st n.val h
  | .iinc n k => a_inc (pc + 3) ls st n k h
  | .iadd => a_go (pc + 1) ls h (a_bin (fun x y => x + y) st)
  | .isub => a_go (pc + 1) ls h (a_bin (fun x y => x - y) st)
  | .imul => a_go (pc + 1) ls h (a_bin (fun x y => x * y) st)
  | .iand => a_go (pc + 1) ls h (a_bin (fun x y => x &&& y) st)
  | .iushr => a_go (pc + 1) ls h (a_bin (fun x y => (x.toUInt32 >>> (y.toUInt32 &&& Int32.toUInt32 31)).toInt32) st)
  | .ishr => a_go (pc + 1) ls h (a_bin (fun x y => x >>> (y &&& 31)) st)
  | .idiv => (match st with
    | .int y :: .int x :: st => if y = 0 then none else some (.inl (pc + 1, ls, .int (x / y) :: st, h))
    | _ => none)
  | .irem => (match st with
    | .int y :: .int x :: st => if y = 0 then none else some (.inl (pc + 1, ls, .int (x - x / y * y) :: st, h))
    | _ => none)
  | .i2b => a_go (pc + 1) ls h (a_un (fun x => x.toInt8.toInt32) st)
  | .i2l => (match st with
    | .int x :: st => some (.inl (pc + 1, ls, .long x.toInt64 :: st, h))
    | _ => none)
  | .lor => (match st with
    | .long y :: .long x :: st => some (.inl (pc + 1, ls, .long (x ||| y) :: st, h))
    | _ => none)
  | .lshl => (match st with
    | .int y :: .long x :: st => some (.inl (pc + 1, ls, .long (x <<< (y.toInt64 &&& 63)) :: st, h))
    | _ => none)
  | .lcmp => (match st with
    | .long y :: .long x :: st => some (.inl (pc + 1, ls, .int (lg_cmp x y) :: st, h))
    | _ => none)
  | .dup => a_go (pc + 1) ls h (a_dup st)
  | .dup2 => (match st with
    | .int y :: .ref k :: st => some (.inl (pc + 1, ls, .int y :: .ref k :: .int y :: .ref k :: st, h))
    | _ => none)
  | .pop => a_go (pc + 1) ls h (a_pop st)
  | .goto _ => some (.inl (a, ls, st, h))
  | .if_icmp c _ => (match st with
    | .int y :: .int x :: st => some (.inl (if a_cnd c x y = true then a else pc + 3, ls, st, h))
    | _ => none)
  | .ifCond c _ => (match st with
    | .int x :: st => some (.inl (if a_cnd c x 0 = true then a else pc + 3, ls, st, h))
    | _ => none)
  | .tableswitch d lo hi offs => (match st with
    | .int x :: st => if x.toInt < lo ∨ hi < x.toInt then some (.inl (((pc : Int) + d).toNat, ls, st, h)) else (match offs[(x.toInt - lo).toNat]? with
      | some o => some (.inl (((pc : Int) + o).toNat, ls, st, h))
      | none => none)
    | _ => none)
  | .lookupswitch d ps => (match st with
    | .int x :: st => some (.inl (((pc : Int) + a_lk ps.toList d x.toInt).toNat, ls, st, h))
    | _ => none)
  | .getfield _ => a_go (pc + 3) ls h (a_getf (a / 100) (a % 100) (b / 2) st h)
  | .putfield _ => a_putf (pc + 3) (a / 100) (a % 100) (b / 2) ls st h
  | .getstatic _ => some (.inl (pc + 3, ls, .ref aC0 :: st, h))
  | .iaload => a_go (pc + 1) ls h (a_ald 1000 st h)
  | .baload => a_go (pc + 1) ls h (a_ald 1001 st h)
  | .laload => a_go (pc + 1) ls h (a_aldL st h)
  | .iastore => a_ast 1000 (fun x => x) (pc + 1) ls st h
  | .bastore => a_ast 1001 (fun x => vp_nar .byte x) (pc + 1) ls st h
  | .lastore => a_astL (pc + 1) ls st h
  | .arraylength => a_go (pc + 1) ls h (a_len st h)
  | .newarray t => a_newa t (pc + 2) ls st h
  | .new _ => if b = 1 then (if h.1 + 1 < aSc ∧ st.isEmpty = true then some (.inr (.inr a, a_mk a 6 h)) else none) else if h.1 + 1 < aSc then some (.inl (pc + 3, ls, .ref h.1 :: st, a_mk a (aNf a) h)) else none
  | .invokespecial _ => if a = 1000 then (match st with
    | .ref _ :: r => if (r.map fun v => v.category).sum ≤ 8 then some (.inl (pc + 3, ls, r, h)) else none
    | _ => none) else a_inv call ct a (b / 2) (pc + 3) ls st h
  | .invokevirtual _ => a_inv call ct a (b / 2) (pc + 3) ls st h
  | .invokestatic _ => a_inv call ct a (b / 2) (pc + 3) ls st h
  | .ireturn => (match st with
    | [.int x] => some (.inr (.inl (some (.int x)), h))
    | _ => none)
  | .return_ => (match st with
    | [] => some (.inr (.inl none, h))
    | _ => none)
  | _ => none
/-- may the method be entered so: the number of its arguments, its receiver's class -/
def a_ok (m : aMe) (as : List Value) (h : aH) : Bool := decide (as.length = m.2.2.2.2.2.1 ∧ as.length ≤ m.2.2.1) && as.all (fun v => decide (v.category = 1)) && (m.2.2.2.2.1 || (match as with
  | .ref k :: _ => decide (k < h.1 ∧ (h.2.2.1 k).1 = m.2.2.2.2.2.2.1)
  | _ => false))
def a_loc (m : aMe) (as : List Value) : List Value := as ++ List.replicate (m.2.2.1 - as.length) (.retAddr 0)
/-- what the method returns is of its type -/
def a_rok (y : Nat) (r : aR) : Bool := match aMeL[y]? with
  | some my => (match my.2.2.2.1, r.1 with
    | some .int, .inl (some (.int _)) => true
    | some .boolean, .inl (some (.int x)) => x == 0 || x == 1
    | none, .inl none => true
    | _, .inr _ => true
    | _, _ => false)
  | none => false
/-- the run: fuel, depth, method, place, locals, stack, heap -/
def a_run (n : Nat) : Nat → Nat → Nat → List Value → List Value → aH → Option aR := Nat.rec (fun _ _ _ _ _ _ => none)
  (fun _ ih d y pc ls st h => match aCode y pc with
    | none => none
    | some ai => match a_step (fun z as g => match d with
        | 0 => none
        | d' + 1 => match aMeL[z]? with
          | some mz => if a_ok mz as g = true then ih d' z 0 (a_loc mz as) [] g else none
          | none => a_jdk z as g) (match aMeL[y]? with
        | some my => my.2.2.2.2.2.2.2
        | none => false) pc ai.1 ai.2.1 ai.2.2.1 ls st h with
      | some (.inl (pc', ls', st', h')) => ih d y pc' ls' st' h'
      | some (.inr r) => if a_rok y r = true then some r else none
      | none => none) n
