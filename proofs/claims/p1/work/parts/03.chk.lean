/-! WHAT A PROGRAM CHECKS of the tables: the code is the bytes', the words are the Statement's -/
def a_il (i : Instr) : Nat := match i with
  | .bipush _ => 2
  | .newarray _ => 2
  | .ldc _ => 2
  | .iload _ => 2
  | .aload _ => 2
  | .istore _ => 2
  | .astore _ => 2
  | .sipush _ => 3
  | .ldc_w _ => 3
  | .iinc _ _ => 3
  | .if_icmp _ _ => 3
  | .ifCond _ _ => 3
  | .goto _ => 3
  | .getfield _ => 3
  | .putfield _ => 3
  | .getstatic _ => 3
  | .new _ => 3
  | .invokespecial _ => 3
  | .invokevirtual _ => 3
  | .invokestatic _ => 3
  | _ => 1
def a_sw (i : Instr) : Bool := match i with
  | .tableswitch _ _ _ _ => true
  | .lookupswitch _ _ => true
  | _ => false
def a_dk (b : ByteArray) (pc : Nat) (i : Instr) : Bool := match decode b pc with
  | .ok (j, n) => decide (j = i) && (a_sw i || decide (n = a_il i))
  | .error _ => false
/-- the targets of jumps -/
def a_br (pc : Nat) (ai : aI) : Bool := match ai.1 with
  | .goto o => decide ((pc : Int) + o = (ai.2.1 : Int))
  | .if_icmp _ o => decide ((pc : Int) + o = (ai.2.1 : Int))
  | .ifCond _ o => decide ((pc : Int) + o = (ai.2.1 : Int))
  | .tableswitch d lo hi offs => decide (0 ≤ (pc : Int) + d) && offs.toList.all (fun o => decide (0 ≤ (pc : Int) + o)) && decide (lo ≤ hi) && decide ((hi - lo + 1).toNat = offs.size)
  | .lookupswitch d ps => decide (0 ≤ (pc : Int) + d) && ps.toList.all (fun q => decide (0 ≤ (pc : Int) + q.2)) && (ps.toList.zip (ps.toList.drop 1)).all (fun (a, next) => a.1 < next.1)
  | _ => true
def a_cn (c : Nat) : vw_C := aCl.getD c ("", aT12, 0)
def a_lnk (own : String) (i : Nat) (y : MethodName) (b : Nat) : Cond := if b % 2 = 1 then .methodLinkNest own i y "TypedTermReader" else .methodLink own i y
def a_need (my : aMe) (ai : aI) : List Cond := match ai.1 with
  | .getfield i => [.fieldLink my.1.cls i (a_cn (ai.2.1 / 100)).1 ((a_cn (ai.2.1 / 100)).2.1 (ai.2.1 % 100)).2.1 ((a_cn (ai.2.1 / 100)).2.1 (ai.2.1 % 100)).2.2.1]
  | .putfield i => [.fieldLink my.1.cls i (a_cn (ai.2.1 / 100)).1 ((a_cn (ai.2.1 / 100)).2.1 (ai.2.1 % 100)).2.1 ((a_cn (ai.2.1 / 100)).2.1 (ai.2.1 % 100)).2.2.1]
  | .new i => if ai.2.2.1 = 0 then [.classLink my.1.cls i (a_cn ai.2.1).1, .instantiable (a_cn ai.2.1).1 (a_cn ai.2.1).2.2, .initialized (a_cn ai.2.1).1] else []
  | .newarray t => [.arrayClass (newarray.typeOf t)]
  | .ldc i => if ai.2.2.1 = 0 then [.constant my.1.cls i (Int32.ofNat ai.2.1)] else []
  | .ldc_w i => if ai.2.2.1 = 0 then [.constant my.1.cls i (Int32.ofNat ai.2.1)] else []
  | .invokespecial i => if ai.2.1 = 1000 then [.methodLink my.1.cls i objectInit] else (match aMeL[ai.2.1]? with
    | some mz => [a_lnk my.1.cls i mz.1 ai.2.2.1, .instanceMethod mz.1, .initialized mz.1.cls]
    | none => [])
  | .invokevirtual i => (match aMeL[ai.2.1]? with
    | some mz => [a_lnk my.1.cls i mz.1 ai.2.2.1, .instanceMethod mz.1, .selects mz.1.cls mz.1 mz.1, .initialized mz.1.cls]
    | none => [])
  | .invokestatic i => (match aMeL[ai.2.1]? with
    | some mz => [a_lnk my.1.cls i mz.1 ai.2.2.1, .static mz.1, .initialized mz.1.cls]
    | none => [])
  | _ => []
/-- of a field: its own class declares it, its type's code is right; a final one is written in its class's constructor -/
def a_fok (my : aMe) (ai : aI) : Bool := match ai.1 with
  | .getfield _ => decide (ai.2.1 / 100 < 12 ∧ ai.2.1 % 100 < (a_cn (ai.2.1 / 100)).2.2 ∧ ((a_cn (ai.2.1 / 100)).2.1 (ai.2.1 % 100)).1 = (a_cn (ai.2.1 / 100)).1 ∧ ai.2.2.1 / 2 = aFt (ai.2.1 / 100) (ai.2.1 % 100))
  | .putfield _ => decide (ai.2.1 / 100 < 12 ∧ ai.2.1 % 100 < (a_cn (ai.2.1 / 100)).2.2 ∧ ((a_cn (ai.2.1 / 100)).2.1 (ai.2.1 % 100)).1 = (a_cn (ai.2.1 / 100)).1 ∧ ai.2.2.1 / 2 = aFt (ai.2.1 / 100) (ai.2.1 % 100) ∧ (((a_cn (ai.2.1 / 100)).2.1 (ai.2.1 % 100)).2.2.2 = true → (my.1.name = "<init>" ∧ my.1.cls = (a_cn (ai.2.1 / 100)).1)))
  | .new _ => decide (ai.2.2.1 = 1 ∨ (ai.2.1 < 12 ∧ ai.2.2.1 = 0))
  | .invokespecial _ => (match aMeL[ai.2.1]? with
    | some mz => decide (mz.1.name = "<init>" ∧ mz.2.2.2.2.1 = false ∧ mz.2.2.2.2.2.1 = ai.2.2.1 / 2)
    | none => decide (ai.2.1 = 1000 ∨ ai.2.1 = 1100))
  | .invokevirtual _ => (match aMeL[ai.2.1]? with
    | some mz => decide (mz.2.2.2.2.1 = false ∧ mz.2.2.2.2.2.1 = ai.2.2.1 / 2)
    | none => decide (ai.2.1 = 1003 ∨ ai.2.1 = 1004))
  | .invokestatic _ => (match aMeL[ai.2.1]? with
    | some mz => decide (mz.2.2.2.2.1 = true ∧ mz.2.2.2.2.2.1 = ai.2.2.1 / 2)
    | none => decide (ai.2.1 = 1001 ∨ ai.2.1 = 1002 ∨ ai.2.1 = 1005))
  | _ => true
def a_wok (ws : List Cond) (is : List Nat) : Bool := decide (ws.length = is.length) && (ws.zip is).all (fun q => match aWs[q.2 / 32]? with
  | some l => (match l[q.2 % 32]? with
    | some w => decide (w = q.1)
    | none => false)
  | none => false)
def a_ck1 (my : aMe) (pc : Nat) (ai : aI) : Bool := a_dk my.2.1 pc ai.1 && a_br pc ai && a_fok my ai && a_wok (a_need my ai) ai.2.2.2
def a_ckL (my : aMe) : Nat → List (Option aI) → Bool
  | _, [] => true
  | pc, none :: l => a_ckL my (pc + 1) l
  | pc, some ai :: l => a_ck1 my pc ai && a_ckL my (pc + 1) l
def a_ckM (y : Nat) : Bool := match aMeL[y]?, aMs[y]? with
  | some my, some l => a_ckL my 0 l
  | _, _ => false
def a_subl : List Cond → List Cond → Bool
  | [], _ => true
  | _ :: _, [] => false
  | w :: l, v :: r => if w = v then a_subl l r else a_subl (w :: l) r
theorem a_subl_mem : ∀ (big D : List Cond), a_subl D big = true → ∀ w ∈ D, w ∈ big
  | _, [], _, w, h => by cases h
  | [], _ :: _, h, _, _ => by cases h
  | v :: r, u :: l, h, w, hw => by
    unfold a_subl at h
    by_cases e : u = v
    · rw [if_pos e] at h
      rcases List.mem_cons.mp hw with rfl | hw
      · rw [e]; exact List.mem_cons_self
      · exact List.mem_cons_of_mem _ (a_subl_mem r l h w hw)
    · rw [if_neg e] at h
      exact List.mem_cons_of_mem _ (a_subl_mem r (u :: l) h w hw)
set_option maxRecDepth 100000 in
theorem a_ws_ok : a_subl aWs.flatten lw_tbl = true := by decide +kernel
