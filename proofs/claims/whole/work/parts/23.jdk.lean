/-! THE JDK'S OWN: String.length, String.charAt over the texts; Math.max, Math.min; System.arraycopy of the static table -/
theorem a_Ss.go {base : Nat} {cs adV : Nat → Nat} {s U : State} (X : a_Ss base cs adV s) (hW : s.WarmedH U.vm) (hq : ∀ q, q < base → U.heap[q]? = s.heap[q]?) : a_Ss base cs adV U := by
  obtain ⟨X1, X2, X3, X4⟩ := X
  have hk : ∀ a : Nat, a < s.heap.size → ¬ (fun q => base ≤ q) a → U.heap[a]? = s.heap[a]? := fun a _ ha => hq a (Nat.not_le.mp ha)
  exact ⟨(X1.moved hW.alike).kept hk, fun i q hi => (X2 i q hi).warm hW, (X3.moved hW.alike).kept hk, (X4.moved hW.alike).kept hk⟩
def j_rm (k : Nat) : Room := { frames := k, cells := 0, slots := 0, locals := k * 64 }
def j_Pc (base : Nat) (cs adV : Nat → Nat) (vs : List Value) : Array Value → State → Prop := fun v U => v = vs.toArray ∧ a_Ss base cs adV U
theorem j_blind (base : Nat) (cs adV : Nat → Nat) (vs : List Value) : FrameBlind (j_Pc base cs adV vs) := fun a U g mk q => ⟨q.1, q.2.go (U := U.calling g mk a) (State.WarmedH.refl U) (fun _ _ => rfl)⟩
def y_coder : MethodName := ⟨"java/lang/String", "coder", "()B"⟩
def y_isL1 : MethodName := ⟨"java/lang/String", "isLatin1", "()Z"⟩
def y_len : MethodName := ⟨"java/lang/String", "length", "()I"⟩
def y_chr : MethodName := ⟨"java/lang/String", "charAt", "(I)C"⟩
def y_l1c : MethodName := ⟨"java/lang/StringLatin1", "charAt", "([BI)C"⟩
def y_ckS : MethodName := ⟨"java/lang/String", "checkIndex", "(II)V"⟩
def y_ckP : MethodName := ⟨"jdk/internal/util/Preconditions", "checkIndex", "(IILjava/util/function/BiFunction;)I"⟩
abbrev j_cw (y : MethodName) (b : ByteArray) (n : Nat) (r : Option FieldType) : List Cond := Cond.code y b n r :: lw_good
theorem jw_coder : Cond.code y_coder prog_19_method_152_code 1 (some .byte) ∈ lw_good := lw_good_in (List.mem_of_getElem? (i := 155) rfl) rfl
theorem jw_isL1 : Cond.code y_isL1 prog_19_method_154_code 1 (some .boolean) ∈ lw_good := lw_good_in (List.mem_of_getElem? (i := 165) rfl) rfl
theorem jw_len : Cond.code y_len prog_19_method_54_code 1 (some .int) ∈ lw_good := lw_good_in (List.mem_of_getElem? (i := 151) rfl) rfl
theorem jw_chr : Cond.code y_chr prog_19_method_56_code 2 (some .char) ∈ lw_good := lw_good_in (List.mem_of_getElem? (i := 161) rfl) rfl
theorem jw_l1c : Cond.code y_l1c prog_20_method_2_code 2 (some .char) ∈ lw_good := lw_good_in (List.mem_of_getElem? (i := 168) rfl) rfl
theorem jw_ckS : Cond.code y_ckS prog_19_method_155_code 2 none ∈ lw_good := lw_good_in (List.mem_of_getElem? (i := 171) rfl) rfl
theorem jw_ckP : Cond.code y_ckP prog_24_method_11_code 3 (some .int) ∈ lw_good := lw_good_in (List.mem_of_getElem? (i := 176) rfl) rfl
theorem j_good {w : Cond} (h : w ∈ lw_good) : GoodIn lw_good (w :: lw_good) := fun v hv => by
  rcases List.mem_cons.mp hv with rfl | hv
  · exact lw_good_ok _ h
  · exact lw_good_ok _ hv
def jL : List Cond := [Cond.methodLink "java/lang/String" 335 y_coder, .instanceMethod y_coder, .selects "java/lang/String" y_coder y_coder, .initialized "java/lang/String", .fieldLink "java/lang/String" 38 "java/lang/String" "COMPACT_STRINGS" "Z", .fieldLink "java/lang/String" 9 "java/lang/String" "value" "[B", .fieldLink "java/lang/String" 15 "java/lang/String" "coder" "B", .methodLink "java/lang/String" 492 y_isL1, .instanceMethod y_isL1, .selects "java/lang/String" y_isL1 y_isL1, .methodLink "java/lang/String" 495 y_l1c, .static y_l1c, .initialized "java/lang/StringLatin1", .methodLink "java/lang/StringLatin1" 9 y_ckS, .static y_ckS, .fieldLink "java/lang/String" 1053 "jdk/internal/util/Preconditions" "SIOOBE_FORMATTER" "Ljava/util/function/BiFunction;", .methodLink "java/lang/String" 1059 y_ckP, .static y_ckP, .initialized "jdk/internal/util/Preconditions", .instanceMethod y_len, .selects "java/lang/String" y_len y_len, .instanceMethod y_chr, .selects "java/lang/String" y_chr y_chr]
set_option maxRecDepth 100000 in
theorem jw_all : jL.all (fun w => decide (w ∈ lw_tbl) && goodWord w) = true := by decide +kernel
theorem jwi (k : Nat) {w : Cond} (h : jL[k]? = some w) : w ∈ lw_good := by
  have h1 := List.all_eq_true.mp jw_all w (List.mem_of_getElem? h)
  rw [Bool.and_eq_true] at h1
  exact lw_good_in (by simpa using h1.1) h1.2
section JD1
variable {p : Program} {l : Launch} {e : Env} {R : Room} {s : State} {m : MethodId} {args : Array Value} {below : List Frame} {meth : Method} {c : Code} {H : Heap} {locs : List Loc} {cells slots : Nat} {Q : State → Prop}
variable {pc : Nat} {ls : Array Slot} {rest st0 : List Value} {a : Array Value}
theorem j_csi {v : Int32} (hr : va_Run p l e R s m args below meth c H locs cells slots 0 0 (F0 m pc ls st0) rest (vp_Si (fun r => r = v) a) (fun _ => False))
    (kk : W p l e R s m args below meth c H locs cells slots Q (F0 m (pc + 3) ls (.int v :: rest))) : W p l e R s m args below meth c H locs cells slots Q (F0 m pc ls st0) := by
  intro T hT X
  obtain ⟨v', st₀, t, T', L, h0, X', hL, e1, -, ⟨r, hv, hp, hh⟩, st⟩ := hr T hT X
  cases hv
  subst hp
  obtain ⟨t2, a1, b1⟩ := kk T' (by rw [e1, hh, h0]) (Stand.forget X' (fun q h => (hL q h).elim))
  exact ⟨t2, st t2 a1, b1⟩
theorem j_csv (hr : va_Run p l e R s m args below meth c H locs cells slots 0 0 (F0 m pc ls st0) rest (va_Sv (fun _ => True) a) (fun _ => False))
    (kk : W p l e R s m args below meth c H locs cells slots Q (F0 m (pc + 3) ls rest)) : W p l e R s m args below meth c H locs cells slots Q (F0 m pc ls st0) := by
  intro T hT X
  obtain ⟨v', st₀, t, T', L, h0, X', hL, e1, -, ⟨hv, -, hh⟩, st⟩ := hr T hT X
  cases hv
  obtain ⟨t2, a1, b1⟩ := kk T' (by rw [e1, hh, h0]) (Stand.forget X' (fun q h => (hL q h).elim))
  exact ⟨t2, st t2 a1, b1⟩
end JD1

theorem a_len_small : ∀ l ∈ aStr, l.length < 100 ∧ ∀ c ∈ l, c < 128 := by decide +kernel
theorem a_len_lt (i : Nat) : (aStr.map List.length).getD i 0 < 2 ^ 31 := by
  rw [List.getD_eq_getElem?_getD, List.getElem?_map]
  cases h : aStr[i]? with
  | none => exact (by decide : (0 : Nat) < 2 ^ 31)
  | some l => exact Nat.lt_trans (a_len_small l (List.mem_of_getElem? h)).1 (by decide)
theorem a_chr_lt (i j : Nat) : (aStr.getD i []).getD j 0 < 128 := by
  rw [List.getD_eq_getElem?_getD, List.getD_eq_getElem?_getD]
  cases h : aStr[i]? with
  | none => exact (by simp)
  | some l =>
    cases h2 : l[j]? with
    | none => rw [show (some l).getD [] = l from rfl, h2]; decide
    | some c => rw [show (some l).getD [] = l from rfl, h2]; exact (a_len_small l (List.mem_of_getElem? h)).2 c (List.mem_of_getElem? h2)
theorem a_byt_eq (i j : Nat) : (((aStr.map (fun l => l.map Int32.ofNat)).getD i []).getD j 0) = Int32.ofNat ((aStr.getD i []).getD j 0) := by
  rw [List.getD_eq_getElem?_getD, List.getD_eq_getElem?_getD, List.getD_eq_getElem?_getD, List.getD_eq_getElem?_getD, List.getElem?_map]
  cases h : aStr[i]? with
  | none => rfl
  | some l =>
    show ((l.map Int32.ofNat)[j]?).getD 0 = Int32.ofNat ((l[j]?).getD 0)
    rw [List.getElem?_map]
    cases h2 : l[j]? with
    | none => rfl
    | some c => rfl
theorem a_c128 : ∀ n, n < 128 → ((Int32.ofNat n &&& 255).toUInt32 % 65536).toInt32 = Int32.ofNat n ∧ narrow .char (.int (Int32.ofNat n)) = .int (Int32.ofNat n) := by decide +kernel
theorem a_chr_ok (i j : Nat) : (((((aStr.map (fun l => l.map Int32.ofNat)).getD i []).getD j 0) &&& 255).toUInt32 % 65536).toInt32 = Int32.ofNat ((aStr.getD i []).getD j 0) ∧ narrow .char (.int (((((aStr.map (fun l => l.map Int32.ofNat)).getD i []).getD j 0) &&& 255).toUInt32 % 65536).toInt32) = .int (((((aStr.map (fun l => l.map Int32.ofNat)).getD i []).getD j 0) &&& 255).toUInt32 % 65536).toInt32 := by
  rw [a_byt_eq, (a_c128 _ (a_chr_lt i j)).1]
  exact ⟨rfl, (a_c128 _ (a_chr_lt i j)).2⟩
theorem a_chr_ok2 (i j : Nat) : narrow .char (.int (Int32.ofNat ((aStr.getD i []).getD j 0))) = .int (Int32.ofNat ((aStr.getD i []).getD j 0)) := (a_c128 _ (a_chr_lt i j)).2
theorem jd_coder_0 : decode prog_19_method_152_code 0 = .ok (.getstatic 38, 3) := by decide +kernel
theorem jd_coder_3 : decode prog_19_method_152_code 3 = .ok (.ifCond .eq 10, 3) := by decide +kernel
theorem jd_coder_6 : decode prog_19_method_152_code 6 = .ok (.aload_n 0, 1) := by decide +kernel
theorem jd_coder_7 : decode prog_19_method_152_code 7 = .ok (.getfield 15, 3) := by decide +kernel
theorem jd_coder_10 : decode prog_19_method_152_code 10 = .ok (.goto 4, 3) := by decide +kernel
theorem jd_coder_14 : decode prog_19_method_152_code 14 = .ok (.ireturn, 1) := by decide +kernel
theorem jd_isL1_0 : decode prog_19_method_154_code 0 = .ok (.getstatic 38, 3) := by decide +kernel
theorem jd_isL1_3 : decode prog_19_method_154_code 3 = .ok (.ifCond .eq 14, 3) := by decide +kernel
theorem jd_isL1_6 : decode prog_19_method_154_code 6 = .ok (.aload_n 0, 1) := by decide +kernel
theorem jd_isL1_7 : decode prog_19_method_154_code 7 = .ok (.getfield 15, 3) := by decide +kernel
theorem jd_isL1_10 : decode prog_19_method_154_code 10 = .ok (.ifCond .ne 7, 3) := by decide +kernel
theorem jd_isL1_13 : decode prog_19_method_154_code 13 = .ok (.iconst 1, 1) := by decide +kernel
theorem jd_isL1_14 : decode prog_19_method_154_code 14 = .ok (.goto 4, 3) := by decide +kernel
theorem jd_isL1_18 : decode prog_19_method_154_code 18 = .ok (.ireturn, 1) := by decide +kernel
theorem jd_len_0 : decode prog_19_method_54_code 0 = .ok (.aload_n 0, 1) := by decide +kernel
theorem jd_len_1 : decode prog_19_method_54_code 1 = .ok (.getfield 9, 3) := by decide +kernel
theorem jd_len_4 : decode prog_19_method_54_code 4 = .ok (.arraylength, 1) := by decide +kernel
theorem jd_len_5 : decode prog_19_method_54_code 5 = .ok (.aload_n 0, 1) := by decide +kernel
theorem jd_len_6 : decode prog_19_method_54_code 6 = .ok (.invokevirtual 335, 3) := by decide +kernel
theorem jd_len_9 : decode prog_19_method_54_code 9 = .ok (.ishr, 1) := by decide +kernel
theorem jd_len_10 : decode prog_19_method_54_code 10 = .ok (.ireturn, 1) := by decide +kernel
theorem jd_chr_0 : decode prog_19_method_56_code 0 = .ok (.aload_n 0, 1) := by decide +kernel
theorem jd_chr_1 : decode prog_19_method_56_code 1 = .ok (.invokevirtual 492, 3) := by decide +kernel
theorem jd_chr_4 : decode prog_19_method_56_code 4 = .ok (.ifCond .eq 12, 3) := by decide +kernel
theorem jd_chr_7 : decode prog_19_method_56_code 7 = .ok (.aload_n 0, 1) := by decide +kernel
theorem jd_chr_8 : decode prog_19_method_56_code 8 = .ok (.getfield 9, 3) := by decide +kernel
theorem jd_chr_11 : decode prog_19_method_56_code 11 = .ok (.iload_n 1, 1) := by decide +kernel
theorem jd_chr_12 : decode prog_19_method_56_code 12 = .ok (.invokestatic 495, 3) := by decide +kernel
theorem jd_chr_15 : decode prog_19_method_56_code 15 = .ok (.ireturn, 1) := by decide +kernel
theorem jd_l1c_0 : decode prog_20_method_2_code 0 = .ok (.iload_n 1, 1) := by decide +kernel
theorem jd_l1c_1 : decode prog_20_method_2_code 1 = .ok (.aload_n 0, 1) := by decide +kernel
theorem jd_l1c_2 : decode prog_20_method_2_code 2 = .ok (.arraylength, 1) := by decide +kernel
theorem jd_l1c_3 : decode prog_20_method_2_code 3 = .ok (.invokestatic 9, 3) := by decide +kernel
theorem jd_l1c_6 : decode prog_20_method_2_code 6 = .ok (.aload_n 0, 1) := by decide +kernel
theorem jd_l1c_7 : decode prog_20_method_2_code 7 = .ok (.iload_n 1, 1) := by decide +kernel
theorem jd_l1c_8 : decode prog_20_method_2_code 8 = .ok (.baload, 1) := by decide +kernel
theorem jd_l1c_9 : decode prog_20_method_2_code 9 = .ok (.sipush 255, 3) := by decide +kernel
theorem jd_l1c_12 : decode prog_20_method_2_code 12 = .ok (.iand, 1) := by decide +kernel
theorem jd_l1c_13 : decode prog_20_method_2_code 13 = .ok (.i2c, 1) := by decide +kernel
theorem jd_l1c_14 : decode prog_20_method_2_code 14 = .ok (.ireturn, 1) := by decide +kernel
theorem jd_ckS_0 : decode prog_19_method_155_code 0 = .ok (.iload_n 0, 1) := by decide +kernel
theorem jd_ckS_1 : decode prog_19_method_155_code 1 = .ok (.iload_n 1, 1) := by decide +kernel
theorem jd_ckS_2 : decode prog_19_method_155_code 2 = .ok (.getstatic 1053, 3) := by decide +kernel
theorem jd_ckS_5 : decode prog_19_method_155_code 5 = .ok (.invokestatic 1059, 3) := by decide +kernel
theorem jd_ckS_8 : decode prog_19_method_155_code 8 = .ok (.pop, 1) := by decide +kernel
theorem jd_ckS_9 : decode prog_19_method_155_code 9 = .ok (.return_, 1) := by decide +kernel
theorem jd_ckP_0 : decode prog_24_method_11_code 0 = .ok (.iload_n 0, 1) := by decide +kernel
theorem jd_ckP_1 : decode prog_24_method_11_code 1 = .ok (.ifCond .lt 8, 3) := by decide +kernel
theorem jd_ckP_4 : decode prog_24_method_11_code 4 = .ok (.iload_n 0, 1) := by decide +kernel
theorem jd_ckP_5 : decode prog_24_method_11_code 5 = .ok (.iload_n 1, 1) := by decide +kernel
theorem jd_ckP_6 : decode prog_24_method_11_code 6 = .ok (.if_icmp .lt 10, 3) := by decide +kernel
theorem jd_ckP_16 : decode prog_24_method_11_code 16 = .ok (.iload_n 0, 1) := by decide +kernel
theorem jd_ckP_17 : decode prog_24_method_11_code 17 = .ok (.ireturn, 1) := by decide +kernel
set_option maxHeartbeats 4000000 in
theorem j_coder (l : Launch) (base : Nat) (cs adV : Nat → Nat) {i : Nat} (hi : i < 22) : Met l y_coder (j_cw y_coder prog_19_method_152_code 1 (some .byte)) (j_rm 0) (j_Pc base cs adV ([Value.ref (cs (i + 2))])) (vp_Si (fun r => r = 0)) 0 0 (fun _ => False) := by
  refine va_MetF (cc := prog_19_method_152_code) (maxL := 1) (ret := (some .byte)) (by decide +kernel) rfl ?_
  intro p e s m args below meth c s₁ B hml hv
  obtain ⟨rfl, X⟩ := hv
  have hx := B.exec
  have hb := B.bytes
  have hr := B.returns
  have hlocks := B.notSynchronized
  have hts0 := atoms_spec (ws := j_cw y_coder prog_19_method_152_code 1 (some .byte)) B.pre
  have hts : ∀ w ∈ lw_good, w.before ([Value.ref (cs (i + 2))]).toArray s = true := fun w hw => hts0 w (List.mem_cons_of_mem _ hw)
  have hown : s.vm.findClass "java/lang/String" = some m.cls := findClass_of_methodNamed B.named
  have hS : va_S (fun q => base ≤ q) s.heap s.heap [] := va_S.rf
  have hl := lv_entry ([Value.ref (cs (i + 2))]) (n := 1) (Nat.le_of_ble_eq_true rfl)
  rw [lg_entry_eq]
  generalize (lg_sl ([Value.ref (cs (i + 2))]) ++ List.replicate (1 - (lg_sl ([Value.ref (cs (i + 2))])).length) Slot.unset).toArray = ls at hl ⊢
  have hl : lv_has ls 1 [(0, .ref (cs (i + 2)))] := hl
  refine va_gets hx hb X.2.2.1 hS hown (hts _ (jwi 4 rfl)) (fun _ h => h) jd_coder_0 ?_
  refine lv_if_eq (tgt := 13) hx hb jd_coder_3 (by decide) (fun q => absurd q (by decide)) (fun _ => ?_)
  refine lv_aload_n hx hb jd_coder_6 rfl (lv_at hl 0 rfl) ?_
  refine vk_getf hx hb (X.1.1 i hi).2.1 hS hown (hts _ (jwi 6 rfl)) (fun _ h => h) jd_coder_7 ?_
  refine lv_goto (tgt := 14) hx hb jd_coder_10 (by decide) ?_
  exact W.zret (ty := .byte) hx hb hr (by decide) (fun t ht _ => ⟨0, rfl, rfl, ht⟩) (fun q h => by cases h) jd_coder_14 hlocks
set_option maxHeartbeats 4000000 in
theorem j_isL1 (l : Launch) (base : Nat) (cs adV : Nat → Nat) {i : Nat} (hi : i < 22) : Met l y_isL1 (j_cw y_isL1 prog_19_method_154_code 1 (some .boolean)) (j_rm 0) (j_Pc base cs adV ([Value.ref (cs (i + 2))])) (vp_Si (fun r => r = 1)) 0 0 (fun _ => False) := by
  refine va_MetF (cc := prog_19_method_154_code) (maxL := 1) (ret := (some .boolean)) (by decide +kernel) rfl ?_
  intro p e s m args below meth c s₁ B hml hv
  obtain ⟨rfl, X⟩ := hv
  have hx := B.exec
  have hb := B.bytes
  have hr := B.returns
  have hlocks := B.notSynchronized
  have hts0 := atoms_spec (ws := j_cw y_isL1 prog_19_method_154_code 1 (some .boolean)) B.pre
  have hts : ∀ w ∈ lw_good, w.before ([Value.ref (cs (i + 2))]).toArray s = true := fun w hw => hts0 w (List.mem_cons_of_mem _ hw)
  have hown : s.vm.findClass "java/lang/String" = some m.cls := findClass_of_methodNamed B.named
  have hS : va_S (fun q => base ≤ q) s.heap s.heap [] := va_S.rf
  have hl := lv_entry ([Value.ref (cs (i + 2))]) (n := 1) (Nat.le_of_ble_eq_true rfl)
  rw [lg_entry_eq]
  generalize (lg_sl ([Value.ref (cs (i + 2))]) ++ List.replicate (1 - (lg_sl ([Value.ref (cs (i + 2))])).length) Slot.unset).toArray = ls at hl ⊢
  have hl : lv_has ls 1 [(0, .ref (cs (i + 2)))] := hl
  refine va_gets hx hb X.2.2.1 hS hown (hts _ (jwi 4 rfl)) (fun _ h => h) jd_isL1_0 ?_
  refine lv_if_eq (tgt := 17) hx hb jd_isL1_3 (by decide) (fun q => absurd q (by decide)) (fun _ => ?_)
  refine lv_aload_n hx hb jd_isL1_6 rfl (lv_at hl 0 rfl) ?_
  refine vk_getf hx hb (X.1.1 i hi).2.1 hS hown (hts _ (jwi 6 rfl)) (fun _ h => h) jd_isL1_7 ?_
  refine lv_if_ne (tgt := 17) hx hb jd_isL1_10 (by decide) (fun q => absurd rfl q) (fun _ => ?_)
  refine lv_iconst (v := 1) hx hb jd_isL1_13 (by decide) ?_
  refine lv_goto (tgt := 18) hx hb jd_isL1_14 (by decide) ?_
  exact W.zret (ty := .boolean) hx hb hr (by decide) (fun t ht _ => ⟨1, rfl, rfl, ht⟩) (fun q h => by cases h) jd_isL1_18 hlocks
set_option maxHeartbeats 4000000 in
theorem j_len (l : Launch) (base : Nat) (cs adV : Nat → Nat) {i : Nat} (hi : i < 22) : Met l y_len (j_cw y_len prog_19_method_54_code 1 (some .int)) (j_rm 2) (j_Pc base cs adV ([Value.ref (cs (i + 2))])) (vp_Si (fun r => r = Int32.ofNat ((aStr.map List.length).getD i 0))) 0 0 (fun _ => False) := by
  refine va_MetF (cc := prog_19_method_54_code) (maxL := 1) (ret := (some .int)) (by decide +kernel) rfl ?_
  intro p e s m args below meth c s₁ B hml hv
  obtain ⟨rfl, X⟩ := hv
  have hx := B.exec
  have hb := B.bytes
  have hr := B.returns
  have hlocks := B.notSynchronized
  have hts0 := atoms_spec (ws := j_cw y_len prog_19_method_54_code 1 (some .int)) B.pre
  have hts : ∀ w ∈ lw_good, w.before ([Value.ref (cs (i + 2))]).toArray s = true := fun w hw => hts0 w (List.mem_cons_of_mem _ hw)
  have hown : s.vm.findClass "java/lang/String" = some m.cls := findClass_of_methodNamed B.named
  have hS : va_S (fun q => base ≤ q) s.heap s.heap [] := va_S.rf
  have hl := lv_entry ([Value.ref (cs (i + 2))]) (n := 1) (Nat.le_of_ble_eq_true rfl)
  rw [lg_entry_eq]
  generalize (lg_sl ([Value.ref (cs (i + 2))]) ++ List.replicate (1 - (lg_sl ([Value.ref (cs (i + 2))])).length) Slot.unset).toArray = ls at hl ⊢
  have hl : lv_has ls 1 [(0, .ref (cs (i + 2)))] := hl
  refine lv_aload_n hx hb jd_len_0 rfl (lv_at hl 0 rfl) ?_
  refine vk_getf hx hb (X.1.1 i hi).2.2.1 hS hown (hts _ (jwi 5 rfl)) (fun _ h => h) jd_len_1 ?_
  refine va_tlen hx hb (X.1.1 i hi).2.2.2 hS rfl jd_len_4 ?_
  refine lv_aload_n hx hb jd_len_5 rfl (lv_at hl 0 rfl) ?_
  refine j_csi (va_runV (As := []) (rest := [.int _]) ⟨hx, hb, hml, hown, hts⟩ (j_coder l base cs adV hi) ⟨callB_of 0 hts (j_good jw_coder) rfl rfl rfl (hts _ (jwi 3 rfl)) (hts _ (jwi 0 rfl)) (by decide +kernel) ⟨Nat.le_of_ble_eq_true rfl, Nat.le_of_ble_eq_true rfl⟩, hts _ (jwi 1 rfl), hts _ (jwi 2 rfl)⟩ ⟨j_blind _ _ _ _, vk_recv X.1 hi hS, fun U hU hW => ⟨rfl, X.go hW (fun q _ => by rw [hU])⟩⟩ rfl rfl hl.1 rfl (lv_room (Nat.le_of_ble_eq_true rfl)) jd_len_6 ⟨Nat.le_refl _, Nat.le_refl _⟩) ?_
  refine lv_ishr hx hb jd_len_9 ?_
  exact W.iret hx hb hr (fun t ht _ => ⟨_, rfl, sb_shr0 _, ht⟩) (fun q h => by cases h) jd_len_10 hlocks
set_option maxHeartbeats 4000000 in
theorem j_ckP (l : Launch) (base : Nat) (cs adV : Nat → Nat) {x n : Int32} (r : Option Nat) (h0 : ¬ x < 0) (hn : x < n) : Met l y_ckP (j_cw y_ckP prog_24_method_11_code 3 (some .int)) (j_rm 0) (j_Pc base cs adV ([Value.int x, .int n, va_rf r])) (vp_Si (fun r => r = x)) 0 0 (fun _ => False) := by
  refine va_MetF (cc := prog_24_method_11_code) (maxL := 3) (ret := (some .int)) (by decide +kernel) rfl ?_
  intro p e s m args below meth c s₁ B hml hv
  obtain ⟨rfl, X⟩ := hv
  have hx := B.exec
  have hb := B.bytes
  have hr := B.returns
  have hlocks := B.notSynchronized
  have hts0 := atoms_spec (ws := j_cw y_ckP prog_24_method_11_code 3 (some .int)) B.pre
  have hts : ∀ w ∈ lw_good, w.before ([Value.int x, .int n, va_rf r]).toArray s = true := fun w hw => hts0 w (List.mem_cons_of_mem _ hw)
  have hown : s.vm.findClass "jdk/internal/util/Preconditions" = some m.cls := findClass_of_methodNamed B.named
  have hS : va_S (fun q => base ≤ q) s.heap s.heap [] := va_S.rf
  have hl := lv_entry ([Value.int x, .int n, va_rf r]) (n := 3) (by cases r <;> exact Nat.le_of_ble_eq_true rfl)
  rw [lg_entry_eq]
  generalize (lg_sl ([Value.int x, .int n, va_rf r]) ++ List.replicate (3 - (lg_sl ([Value.int x, .int n, va_rf r])).length) Slot.unset).toArray = ls at hl ⊢
  have hl : lv_has ls 3 (lv_args 0 [Value.int x, .int n, va_rf r]) := hl
  refine lv_iload_n hx hb jd_ckP_0 rfl (lv_at hl 0 rfl) ?_
  refine lv_if_lt (tgt := 9) hx hb jd_ckP_1 (by decide) (fun q => absurd q h0) (fun _ => ?_)
  refine lv_iload_n hx hb jd_ckP_4 rfl (lv_at hl 0 rfl) ?_
  refine lv_iload_n hx hb jd_ckP_5 rfl (lv_at hl 1 rfl) ?_
  refine lv_icmp_lt (tgt := 16) hx hb jd_ckP_6 (by decide) (fun _ => ?_) (fun q => absurd hn q)
  refine lv_iload_n hx hb jd_ckP_16 rfl (lv_at hl 0 rfl) ?_
  exact W.iret hx hb hr (fun t ht _ => ⟨_, rfl, rfl, ht⟩) (fun q h => by cases h) jd_ckP_17 hlocks
set_option maxHeartbeats 4000000 in
theorem j_ckS (l : Launch) (base : Nat) (cs adV : Nat → Nat) {x n : Int32} (h0 : ¬ x < 0) (hn : x < n) : Met l y_ckS (j_cw y_ckS prog_19_method_155_code 2 none) (j_rm 2) (j_Pc base cs adV ([Value.int x, .int n])) (va_Sv (fun _ => True)) 0 0 (fun _ => False) := by
  refine va_MetF (cc := prog_19_method_155_code) (maxL := 2) (ret := none) (by decide +kernel) rfl ?_
  intro p e s m args below meth c s₁ B hml hv
  obtain ⟨rfl, X⟩ := hv
  have hx := B.exec
  have hb := B.bytes
  have hr := B.returns
  have hlocks := B.notSynchronized
  have hts0 := atoms_spec (ws := j_cw y_ckS prog_19_method_155_code 2 none) B.pre
  have hts : ∀ w ∈ lw_good, w.before ([Value.int x, .int n]).toArray s = true := fun w hw => hts0 w (List.mem_cons_of_mem _ hw)
  have hown : s.vm.findClass "java/lang/String" = some m.cls := findClass_of_methodNamed B.named
  have hS : va_S (fun q => base ≤ q) s.heap s.heap [] := va_S.rf
  have hl := lv_entry ([Value.int x, .int n]) (n := 2) (Nat.le_of_ble_eq_true rfl)
  rw [lg_entry_eq]
  generalize (lg_sl ([Value.int x, .int n]) ++ List.replicate (2 - (lg_sl ([Value.int x, .int n])).length) Slot.unset).toArray = ls at hl ⊢
  have hl : lv_has ls 2 [(0, .int x), (1, .int n)] := hl
  refine lv_iload_n hx hb jd_ckS_0 rfl (lv_at hl 0 rfl) ?_
  refine lv_iload_n hx hb jd_ckS_1 rfl (lv_at hl 1 rfl) ?_
  rcases X.2.2.2 with hz | ⟨t0, hz⟩
  · refine va_gets hx hb hz hS hown (hts _ (jwi 15 rfl)) (fun _ h => h) jd_ckS_2 ?_
    refine j_csi (v := x) (va_runS (As := [.int x, .int n, .null]) (rest := []) ⟨hx, hb, hml, hown, hts⟩ (j_ckP l base cs adV none h0 hn) ⟨callB_of 3 hts (j_good jw_ckP) rfl rfl rfl (hts _ (jwi 18 rfl)) (hts _ (jwi 16 rfl)) (by decide +kernel) ⟨Nat.le_of_ble_eq_true rfl, Nat.le_of_ble_eq_true rfl⟩, hts _ (jwi 17 rfl)⟩ ⟨j_blind _ _ _ _, fun U hU hW => ⟨rfl, X.go hW (fun q _ => by rw [hU])⟩⟩ rfl rfl hl.1 rfl (lv_room (Nat.le_of_ble_eq_true rfl)) jd_ckS_5 ⟨Nat.le_refl _, Nat.le_refl _⟩) ?_
    refine lv_pop hx hb jd_ckS_8 rfl ?_
    exact W.vret hx hb hr (fun t ht _ => ⟨rfl, trivial, ht⟩) (fun q h => by cases h) jd_ckS_9 hlocks
  · refine va_gets hx hb hz hS hown (hts _ (jwi 15 rfl)) (fun _ h => h) jd_ckS_2 ?_
    refine j_csi (v := x) (va_runS (As := [.int x, .int n, .ref t0]) (rest := []) ⟨hx, hb, hml, hown, hts⟩ (j_ckP l base cs adV (some t0) h0 hn) ⟨callB_of 3 hts (j_good jw_ckP) rfl rfl rfl (hts _ (jwi 18 rfl)) (hts _ (jwi 16 rfl)) (by decide +kernel) ⟨Nat.le_of_ble_eq_true rfl, Nat.le_of_ble_eq_true rfl⟩, hts _ (jwi 17 rfl)⟩ ⟨j_blind _ _ _ _, fun U hU hW => ⟨rfl, X.go hW (fun q _ => by rw [hU])⟩⟩ rfl rfl hl.1 rfl (lv_room (Nat.le_of_ble_eq_true rfl)) jd_ckS_5 ⟨Nat.le_refl _, Nat.le_refl _⟩) ?_
    refine lv_pop hx hb jd_ckS_8 rfl ?_
    exact W.vret hx hb hr (fun t ht _ => ⟨rfl, trivial, ht⟩) (fun q h => by cases h) jd_ckS_9 hlocks

set_option maxHeartbeats 4000000 in
theorem j_l1c (l : Launch) (base : Nat) (cs adV : Nat → Nat) {i : Nat} (hi : i < 22) {x : Int32} (hin : vp_in x ((aStr.map List.length).getD i 0)) : Met l y_l1c (j_cw y_l1c prog_20_method_2_code 2 (some .char)) (j_rm 4) (j_Pc base cs adV ([Value.ref (adV i), .int x])) (vp_Si (fun r => r = Int32.ofNat ((aStr.getD i []).getD x.toNatClampNeg 0))) 0 0 (fun _ => False) := by
  refine va_MetF (cc := prog_20_method_2_code) (maxL := 2) (ret := (some .char)) (by decide +kernel) rfl ?_
  intro p e s m args below meth c s₁ B hml hv
  obtain ⟨rfl, X⟩ := hv
  have hx := B.exec
  have hb := B.bytes
  have hr := B.returns
  have hlocks := B.notSynchronized
  have hts0 := atoms_spec (ws := j_cw y_l1c prog_20_method_2_code 2 (some .char)) B.pre
  have hts : ∀ w ∈ lw_good, w.before ([Value.ref (adV i), .int x]).toArray s = true := fun w hw => hts0 w (List.mem_cons_of_mem _ hw)
  have hown : s.vm.findClass "java/lang/StringLatin1" = some m.cls := findClass_of_methodNamed B.named
  have hS : va_S (fun q => base ≤ q) s.heap s.heap [] := va_S.rf
  have hl := lv_entry ([Value.ref (adV i), .int x]) (n := 2) (Nat.le_of_ble_eq_true rfl)
  rw [lg_entry_eq]
  generalize (lg_sl ([Value.ref (adV i), .int x]) ++ List.replicate (2 - (lg_sl ([Value.ref (adV i), .int x])).length) Slot.unset).toArray = ls at hl ⊢
  have hl : lv_has ls 2 [(0, .ref (adV i)), (1, .int x)] := hl
  refine lv_iload_n hx hb jd_l1c_0 rfl (lv_at hl 1 rfl) ?_
  refine lv_aload_n hx hb jd_l1c_1 rfl (lv_at hl 0 rfl) ?_
  refine va_tlen hx hb (X.1.1 i hi).2.2.2 hS rfl jd_l1c_2 ?_
  obtain ⟨j, hj, ex⟩ := vp_in_of hin (a_len_lt i)
  have h0 : ¬ x < 0 := by rw [ex]; exact nI_pos (Nat.lt_trans hj (a_len_lt i))
  have hn : x < Int32.ofNat ((aStr.map List.length).getD i 0) := by rw [ex]; exact nI_lt hj (a_len_lt i)
  refine j_csv (va_runS (As := [.int x, .int _]) (rest := []) ⟨hx, hb, hml, hown, hts⟩ (j_ckS l base cs adV h0 hn) ⟨callB_of 2 hts (j_good jw_ckS) rfl rfl rfl (hts _ (jwi 3 rfl)) (hts _ (jwi 13 rfl)) (by decide +kernel) ⟨Nat.le_of_ble_eq_true rfl, Nat.le_of_ble_eq_true rfl⟩, hts _ (jwi 14 rfl)⟩ ⟨j_blind _ _ _ _, fun U hU hW => ⟨rfl, X.go hW (fun q _ => by rw [hU])⟩⟩ rfl rfl hl.1 rfl (lv_room (Nat.le_of_ble_eq_true rfl)) jd_l1c_3 ⟨Nat.le_refl _, Nat.le_refl _⟩) ?_
  refine lv_aload_n hx hb jd_l1c_6 rfl (lv_at hl 0 rfl) ?_
  refine lv_iload_n hx hb jd_l1c_7 rfl (lv_at hl 1 rfl) ?_
  refine va_tb hx hb (X.1.1 i hi).2.2.2 hS hin rfl jd_l1c_8 ?_
  refine lv_sipush (v := 255) hx hb jd_l1c_9 (by decide) ?_
  refine lv_iand hx hb jd_l1c_12 ?_
  refine lv_i2c hx hb jd_l1c_13 rfl ?_
  have hc := a_chr_ok i x.toNatClampNeg
  exact W.zret (ty := .char) hx hb hr hc.2 (fun t ht _ => ⟨_, rfl, hc.1, ht⟩) (fun q h => by cases h) jd_l1c_14 hlocks
set_option maxHeartbeats 4000000 in
theorem j_chr (l : Launch) (base : Nat) (cs adV : Nat → Nat) {i : Nat} (hi : i < 22) {x : Int32} (hin : vp_in x ((aStr.map List.length).getD i 0)) : Met l y_chr (j_cw y_chr prog_19_method_56_code 2 (some .char)) (j_rm 6) (j_Pc base cs adV ([Value.ref (cs (i + 2)), .int x])) (vp_Si (fun r => r = Int32.ofNat ((aStr.getD i []).getD x.toNatClampNeg 0))) 0 0 (fun _ => False) := by
  refine va_MetF (cc := prog_19_method_56_code) (maxL := 2) (ret := (some .char)) (by decide +kernel) rfl ?_
  intro p e s m args below meth c s₁ B hml hv
  obtain ⟨rfl, X⟩ := hv
  have hx := B.exec
  have hb := B.bytes
  have hr := B.returns
  have hlocks := B.notSynchronized
  have hts0 := atoms_spec (ws := j_cw y_chr prog_19_method_56_code 2 (some .char)) B.pre
  have hts : ∀ w ∈ lw_good, w.before ([Value.ref (cs (i + 2)), .int x]).toArray s = true := fun w hw => hts0 w (List.mem_cons_of_mem _ hw)
  have hown : s.vm.findClass "java/lang/String" = some m.cls := findClass_of_methodNamed B.named
  have hS : va_S (fun q => base ≤ q) s.heap s.heap [] := va_S.rf
  have hl := lv_entry ([Value.ref (cs (i + 2)), .int x]) (n := 2) (Nat.le_of_ble_eq_true rfl)
  rw [lg_entry_eq]
  generalize (lg_sl ([Value.ref (cs (i + 2)), .int x]) ++ List.replicate (2 - (lg_sl ([Value.ref (cs (i + 2)), .int x])).length) Slot.unset).toArray = ls at hl ⊢
  have hl : lv_has ls 2 [(0, .ref (cs (i + 2))), (1, .int x)] := hl
  refine lv_aload_n hx hb jd_chr_0 rfl (lv_at hl 0 rfl) ?_
  refine j_csi (va_runV (As := []) (rest := []) ⟨hx, hb, hml, hown, hts⟩ (j_isL1 l base cs adV hi) ⟨callB_of 0 hts (j_good jw_isL1) rfl rfl rfl (hts _ (jwi 3 rfl)) (hts _ (jwi 7 rfl)) (by decide +kernel) ⟨Nat.le_of_ble_eq_true rfl, Nat.le_of_ble_eq_true rfl⟩, hts _ (jwi 8 rfl), hts _ (jwi 9 rfl)⟩ ⟨j_blind _ _ _ _, vk_recv X.1 hi hS, fun U hU hW => ⟨rfl, X.go hW (fun q _ => by rw [hU])⟩⟩ rfl rfl hl.1 rfl (lv_room (Nat.le_of_ble_eq_true rfl)) jd_chr_1 ⟨Nat.le_refl _, Nat.le_refl _⟩) ?_
  refine lv_if_eq (tgt := 16) hx hb jd_chr_4 (by decide) (fun q => absurd q (by decide)) (fun _ => ?_)
  refine lv_aload_n hx hb jd_chr_7 rfl (lv_at hl 0 rfl) ?_
  refine vk_getf hx hb (X.1.1 i hi).2.2.1 hS hown (hts _ (jwi 5 rfl)) (fun _ h => h) jd_chr_8 ?_
  refine lv_iload_n hx hb jd_chr_11 rfl (lv_at hl 1 rfl) ?_
  refine j_csi (va_runS (As := [.ref (adV i), .int x]) (rest := []) ⟨hx, hb, hml, hown, hts⟩ (j_l1c l base cs adV hi hin) ⟨callB_of 2 hts (j_good jw_l1c) rfl rfl rfl (hts _ (jwi 12 rfl)) (hts _ (jwi 10 rfl)) (by decide +kernel) ⟨Nat.le_of_ble_eq_true rfl, Nat.le_of_ble_eq_true rfl⟩, hts _ (jwi 11 rfl)⟩ ⟨j_blind _ _ _ _, fun U hU hW => ⟨rfl, X.go hW (fun q _ => by rw [hU])⟩⟩ rfl rfl hl.1 rfl (lv_room (Nat.le_of_ble_eq_true rfl)) jd_chr_12 ⟨Nat.le_refl _, Nat.le_refl _⟩) ?_
  have hc := a_chr_ok2 i x.toNatClampNeg
  exact W.zret (ty := .char) hx hb hr hc (fun t ht _ => ⟨_, rfl, rfl, ht⟩) (fun q h => by cases h) jd_chr_15 hlocks
