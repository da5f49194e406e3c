/-! AT THE LAW'S ENTRY: the context out of the Statement's premises. The numbers are the premises' places in the Statement's own conjunction (wip/am/mk30.py) -/
def a_nf : List Cond := flatC (Jvm.Cond.and given_1 narrow_1)
def a_tm (i : Nat) : Term := match aSrf[i]? with
  | some q => .string q.1 q.2.1
  | none => .null
def a_sv (i : Nat) : Term := .field (a_tm i) "java/lang/String" "value" "[B"
theorem a_fm {L : List Cond} {f : Nat → Cond} {n : Nat} {ix : List Nat} (h : (List.range n).map f = ix.filterMap (fun i => L[i]?)) : ∀ i, i < n → f i ∈ L := by
  intro i hi
  have h1 : f i ∈ (List.range n).map f := List.mem_map.mpr ⟨i, List.mem_range.mpr hi, rfl⟩
  rw [h] at h1
  obtain ⟨k, -, hk⟩ := List.mem_filterMap.mp h1
  exact List.mem_of_getElem? hk
theorem a_fm2 {L : List Cond} {g : Nat → Nat} {f : Nat → Nat → Cond} {n : Nat} {ix : List Nat} (h : (List.range n).flatMap (fun i => (List.range (g i)).map (f i)) = ix.filterMap (fun i => L[i]?)) : ∀ i, i < n → ∀ j, j < g i → f i j ∈ L := by
  intro i hi j hj
  have h1 : f i j ∈ (List.range n).flatMap (fun i => (List.range (g i)).map (f i)) := List.mem_flatMap.mpr ⟨i, List.mem_range.mpr hi, List.mem_map.mpr ⟨j, List.mem_range.mpr hj, rfl⟩⟩
  rw [h] at h1
  obtain ⟨k, -, hk⟩ := List.mem_filterMap.mp h1
  exact List.mem_of_getElem? hk
set_option maxRecDepth 100000 in
theorem a_n1 : (List.range 22).map (fun i => Cond.exactly (a_tm i) "java/lang/String") = [155, 189, 211, 120, 96, 100, 244, 255, 267, 282, 299, 316, 371, 392, 414, 436, 459, 483, 508, 534, 334, 352].filterMap (fun i => a_nf[i]?) := by decide +kernel
set_option maxRecDepth 100000 in
theorem a_n2 : (List.range 22).map (fun i => Cond.eq (.field (a_tm i) "java/lang/String" "coder" "B") (.int 0)) = [156, 190, 212, 121, 97, 101, 245, 256, 268, 283, 300, 317, 372, 393, 415, 437, 460, 484, 509, 535, 335, 353].filterMap (fun i => a_nf[i]?) := by decide +kernel
set_option maxRecDepth 100000 in
theorem a_n3 : (List.range 22).map (fun i => Cond.arrayOf (a_sv i) .byte) = [157, 191, 213, 122, 98, 102, 246, 257, 269, 284, 301, 318, 373, 394, 416, 438, 461, 485, 510, 536, 336, 354].filterMap (fun i => a_nf[i]?) := by decide +kernel
set_option maxRecDepth 100000 in
theorem a_n4 : (List.range 22).map (fun i => Cond.eq (.length (a_sv i)) (.int (Int32.ofNat ((aStr.map List.length).getD i 0)))) = [158, 192, 214, 123, 99, 103, 247, 258, 270, 285, 302, 319, 374, 395, 417, 439, 462, 486, 511, 537, 337, 355].filterMap (fun i => a_nf[i]?) := by decide +kernel
set_option maxRecDepth 100000 in
theorem a_n5 : (List.range 22).flatMap (fun i => (List.range ((aStr.map List.length).getD i 0)).map (fun j => Cond.eq (.elem (a_sv i) (.int (Int32.ofNat j))) (.int (((aStr.map (fun l => l.map Int32.ofNat)).getD i []).getD j 0)))) = [159, 160, 161, 162, 163, 164, 165, 166, 167, 168, 169, 170, 171, 172, 173, 174, 175, 176, 177, 178, 179, 180, 181, 182, 183, 184, 185, 193, 194, 195, 196, 197, 198, 199, 200, 201, 202, 203, 204, 205, 206, 215, 216, 217, 218, 219, 220, 221, 222, 223, 224, 225, 226, 227, 228, 229, 230, 231, 232, 233, 234, 235, 236, 237, 238, 124, 125, 126, 127, 128, 129, 130, 131, 132, 133, 134, 135, 136, 137, 138, 139, 140, 141, 142, 143, 144, 145, 146, 147, 148, 149, 150, 151, 152, 104, 105, 106, 107, 108, 109, 110, 111, 112, 113, 114, 115, 116, 117, 118, 248, 259, 271, 272, 273, 286, 287, 288, 289, 303, 304, 305, 320, 321, 322, 375, 376, 377, 396, 397, 398, 418, 419, 440, 441, 463, 464, 487, 488, 512, 513, 538, 539, 338, 339, 356, 357].filterMap (fun i => a_nf[i]?) := by decide +kernel
def a_rk : List Nat := [3, 4, 5, 2, 0, 1, 6, 7, 8, 9, 10, 11, 14, 15, 16, 17, 18, 19, 20, 21, 12, 13]
def a_pw (i j : Nat) : Cond := if a_rk.getD j 0 < a_rk.getD i 0 then .not (.eq (a_tm j) (a_tm i)) else .not (.eq (a_tm i) (a_tm j))
set_option maxRecDepth 100000 in
theorem a_n6 : (List.range 22).flatMap (fun i => (List.range i).map (fun j => a_pw i j)) = [210, 242, 243, 188, 209, 241, 186, 207, 239, 153, 187, 208, 240, 154, 119, 252, 253, 254, 251, 249, 250, 263, 264, 265, 262, 260, 261, 266, 277, 278, 279, 276, 274, 275, 280, 281, 293, 294, 295, 292, 290, 291, 296, 297, 298, 309, 310, 311, 308, 306, 307, 312, 313, 314, 315, 326, 327, 328, 325, 323, 324, 329, 330, 331, 332, 333, 381, 382, 383, 380, 378, 379, 384, 385, 386, 387, 388, 389, 402, 403, 404, 401, 399, 400, 405, 406, 407, 408, 409, 410, 413, 423, 424, 425, 422, 420, 421, 426, 427, 428, 429, 430, 431, 434, 435, 445, 446, 447, 444, 442, 443, 448, 449, 450, 451, 452, 453, 456, 457, 458, 468, 469, 470, 467, 465, 466, 471, 472, 473, 474, 475, 476, 479, 480, 481, 482, 492, 493, 494, 491, 489, 490, 495, 496, 497, 498, 499, 500, 503, 504, 505, 506, 507, 517, 518, 519, 516, 514, 515, 520, 521, 522, 523, 524, 525, 528, 529, 530, 531, 532, 533, 543, 544, 545, 542, 540, 541, 546, 547, 548, 549, 550, 551, 554, 555, 556, 557, 558, 559, 560, 343, 344, 345, 342, 340, 341, 346, 347, 348, 349, 350, 351, 390, 411, 432, 454, 477, 501, 526, 552, 361, 362, 363, 360, 358, 359, 364, 365, 366, 367, 368, 369, 391, 412, 433, 455, 478, 502, 527, 553, 370].filterMap (fun i => a_nf[i]?) := by decide +kernel
theorem a_pw_or {i j : Nat} {args : Array Value} {s : State} (h : (a_pw i j).before args s = true) : (Cond.not (Cond.eq (a_tm i) (a_tm j))).before args s = true ∨ (Cond.not (Cond.eq (a_tm j) (a_tm i))).before args s = true := by
  unfold a_pw at h
  split at h
  · exact Or.inr h
  · exact Or.inl h
set_option maxRecDepth 100000 in
theorem a_n7 : (List.range 56).map (fun j => Cond.eq (.elem (.static "TypedTermReader" "CONSTANT_TYPES" "[I") (.int (Int32.ofNat j))) (.int (aTab.getD j 0))) = [12, 13, 14, 15, 16, 17, 18, 19, 20, 21, 22, 23, 24, 25, 26, 27, 28, 29, 30, 31, 32, 33, 34, 35, 36, 37, 38, 39, 40, 41, 42, 43, 44, 45, 46, 47, 48, 49, 50, 51, 52, 53, 54, 55, 56, 57, 58, 59, 60, 61, 62, 63, 64, 65, 66, 67].filterMap (fun i => a_nf[i]?) := by decide +kernel
theorem a_m0 : Cond.arrayOf (.static "TypedTermReader" "CONSTANT_TYPES" "[I") .int ∈ a_nf := List.mem_of_getElem? (i := 10) (by decide +kernel)
theorem a_m1 : Cond.eq (.length (.static "TypedTermReader" "CONSTANT_TYPES" "[I")) (.int (Int32.ofNat 56)) ∈ a_nf := List.mem_of_getElem? (i := 11) (by decide +kernel)
theorem a_m2 : Cond.eq (.static "java/lang/String" "COMPACT_STRINGS" "Z") (.int 1) ∈ a_nf := List.mem_of_getElem? (i := 4) (by decide +kernel)
theorem a_m3 : Cond.isRef (.static "jdk/internal/util/Preconditions" "SIOOBE_FORMATTER" "Ljava/util/function/BiFunction;") ∈ a_nf := List.mem_of_getElem? (i := 5) (by decide +kernel)
theorem a_m4 : Cond.isRef (.static "java/lang/Throwable" "UNASSIGNED_STACK" "[Ljava/lang/StackTraceElement;") ∈ a_nf := List.mem_of_getElem? (i := 68) (by decide +kernel)
theorem a_m5 : Cond.isRef (.static "java/lang/Throwable" "SUPPRESSED_SENTINEL" "Ljava/util/List;") ∈ a_nf := List.mem_of_getElem? (i := 69) (by decide +kernel)
def a_ins (c : Nat) : Cond := .instantiable (a_cn c).1 (if c < 12 then (a_cn c).2.2 else 6)
set_option maxRecDepth 100000 in
theorem a_insA : ∀ c, c < 14 → a_ins c ∈ lw_tbl := by decide +kernel
set_option maxRecDepth 100000 in
theorem a_srA : aSrf.all (fun q => decide (Cond.stringRef q.1 q.2.1 q.2.2 ∈ lw_tbl)) = true := by decide +kernel
def a_ls8 : List Cond := [.laysStatic "java/lang/String" "COMPACT_STRINGS" "Z", .laysStatic "jdk/internal/util/Preconditions" "SIOOBE_FORMATTER" "Ljava/util/function/BiFunction;", .laysStatic "TypedTermReader" "CONSTANT_TYPES" "[I", .laysStatic "java/lang/Throwable" "UNASSIGNED_STACK" "[Ljava/lang/StackTraceElement;", .laysStatic "java/lang/Throwable" "SUPPRESSED_SENTINEL" "Ljava/util/List;", .initialized "java/lang/String", .initialized "jdk/internal/util/Preconditions", .initialized "TypedTermReader", .initialized "java/lang/Throwable", .arrayClass .int, .arrayClass .byte, .arrayClass .long]
set_option maxRecDepth 100000 in
theorem a_ls8A : ∀ w ∈ a_ls8, w ∈ lw_tbl := by decide +kernel
theorem a_LSt.of {args : Array Value} {s : State} {C n d : String} (h1 : (Cond.laysStatic C n d).before args s = true) (h2 : (Cond.isRef (.static C n d)).before args s = true) : a_LSt s.heap.size C n d s := by
  obtain ⟨c, k, i, f, a, cell, hc, hi, hst, ha, hcell, hs, hcls, hlt, hty⟩ := Cond.laysStatic_spec h1
  obtain ⟨v, hv, hvr⟩ := Cond.isRef_spec h2
  obtain ⟨hst', a', cell', ha', hcell', -, hslot⟩ := Term.static_spec hi hv
  cases ha.symm.trans ha'
  cases hcell.symm.trans hcell'
  refine ⟨c, k, i, f, a, cell, hc, hi, hst, ha, hcell, hs, hcls, hlt, hty, (Array.getElem?_eq_some_iff.mp hcell).1, v, hslot, ?_⟩
  cases v with
  | null => exact Or.inl rfl
  | ref t => exact Or.inr ⟨t, rfl⟩
  | _ => cases hvr
set_option maxRecDepth 100000 in
theorem a_onT : lw_tbl.all (fun w => !a_isN w || w.onTables) = true := by decide +kernel
def a_h0 (L : Nat) (xs : Nat → Int32) : aH := (0, (0, 0), (fun k => if k = aSc then (1000, L) else (0, 0)), (fun k => if k = aSc then xs else fun _ => 0), (fun _ _ => 0), (fun _ _ => none))
theorem a_h0_ctx {s : State} {b L : Nat} {xs : Nat → Int32} (hts : ∀ w ∈ lw_tbl, w.before #[Value.ref b] s = true) (hX : va_X b L xs s s.heap) (hb : b < s.heap.size) (hgv : (Jvm.Cond.and given_1 narrow_1).before #[Value.ref b] s = true) :
    ∃ (cs : Nat → Nat) (D : va_G) (cA : Nat → ClassId), a_Cx s.heap.size cs D cA (a_h0 L xs) s ∧ cs 0 = b := by
  have hn : ∀ w ∈ a_nf, w.before #[Value.ref b] s = true := flat_of_before _ hgv
  have hA : ∀ a : Nat, a < s.heap.size → ¬ (fun q => s.heap.size ≤ q) a := fun a ha h => absurd ha (Nat.not_lt.mpr h)
  have w8 : ∀ w ∈ a_ls8, w.before #[Value.ref b] s = true := fun w hw => hts w (a_ls8A w hw)
  have hgood : ∀ w ∈ lw_good, w.before #[Value.ref b] s = true := fun w hw => hts w (lw_good_tbl hw)
  -- classes
  have hc0 : ∀ c : Nat, ∃ q : ClassId × (Nat → Nat), ∀ r : vw_C, aCl[c]? = some r → u_Kn s r.1 r.2.1 r.2.2 q.1 q.2 := by
    intro c
    by_cases h12 : c < 12
    · obtain ⟨cC, iS, h⟩ := u_known (n := (a_cn c).2.2) hgood (a_cl_in h12) (by have := hts _ (a_insA c (by omega)); unfold a_ins at this; rw [if_pos h12] at this; exact this)
      refine ⟨(cC, iS), fun r hr => ?_⟩
      rw [a_cl_at c h12] at hr
      cases hr
      exact h
    · by_cases h14 : c < 14
      · have hci : c = 12 ∨ c = 13 := by omega
        obtain ⟨T, hT⟩ := a_xcl_at c hci
        obtain ⟨cC, iS, h⟩ := u_known (T := T) (N := 0) (n := 6) (C := a_xcls c) hgood (fun w hw => by cases hw) (hts _ (lw_good_tbl (a_xw c hci).2.1))
        refine ⟨(cC, iS), fun r hr => ?_⟩
        rw [hT] at hr
        cases hr
        exact h
      · refine ⟨(0, fun _ => 0), fun r hr => ?_⟩
        have : aCl.length = 14 := rfl
        rw [List.getElem?_eq_none (by omega)] at hr
        cases hr
  obtain ⟨dq, hdq⟩ := Classical.axiomOfChoice hc0
  -- arrays
  obtain ⟨ci, ki, coi, i1, i2, i3⟩ := Cond.arrayClass_spec (w8 (.arrayClass .int) (by simp [a_ls8]))
  obtain ⟨cb, kb, cob, b1, b2, b3⟩ := Cond.arrayClass_spec (w8 (.arrayClass .byte) (by simp [a_ls8]))
  obtain ⟨cl, kl, col, l1, l2, l3⟩ := Cond.arrayClass_spec (w8 (.arrayClass .long) (by simp [a_ls8]))
  -- the table
  obtain ⟨aT, hT1, hT2⟩ := va_Tof (args := #[Value.ref b]) (s := s) (tm := .static "TypedTermReader" "CONSTANT_TYPES" "[I") (ty := .int) (N := 56) (f := fun j => .int (aTab.getD j 0)) (A := fun q => s.heap.size ≤ q) (by decide) (hn _ a_m0) (va_eqt (hn _ a_m1)) (fun j hj => va_eqt (hn _ (a_fm a_n7 j hj))) hA
  have hZT := va_Zof (A := fun q => s.heap.size ≤ q) (w8 (.laysStatic "TypedTermReader" "CONSTANT_TYPES" "[I") (by simp [a_ls8])) (w8 (.initialized "TypedTermReader") (by simp [a_ls8])) hT1 hA
  -- texts
  have hlen : ∀ i : Nat, i < 22 → (aStr.map List.length).getD i 0 < 2 ^ 31 := by decide +kernel
  obtain ⟨adK, adV, hS, hK⟩ := vk_Sof (args := #[Value.ref b]) (s := s) (N := 22) (tm := a_tm) (len := aStr.map List.length) (byt := (aStr.map (fun (l : List Nat) => l.map Int32.ofNat) : List (List Int32))) (A := fun q => s.heap.size ≤ q) hlen (fun i hi => hn _ (a_fm a_n1 i hi)) (fun i hi => hn _ (a_fm a_n2 i hi)) (fun i hi => hn _ (a_fm a_n3 i hi)) (fun i hi => hn _ (a_fm a_n4 i hi)) (fun i hi j hj => hn _ (a_fm2 a_n5 i hi j hj))
    (fun i j hi hj hij => by
      rcases Nat.lt_or_gt_of_ne hij with h | h
      · exact (a_pw_or (hn _ (a_fm2 a_n6 j hj i h))).symm
      · exact a_pw_or (hn _ (a_fm2 a_n6 i hi j h))) hA
  refine ⟨fun n => if n = 0 then b else if n = 1 then aT else adK (n - 2), (fun c => (dq c).1, fun c => (dq c).2), fun n => if n = 1000 then ci else if n = 1001 then cb else cl, ⟨⟨fun c q hq => hdq c q hq, ?_⟩, ?_, ⟨hT2, hZT⟩, ?_, ⟨adV, hS, ?_, ?_, ?_⟩, ?_, ?_, ?_⟩, rfl⟩
  · intro k q hk
    match k, hk with
    | 0, hk =>
      cases hk
      exact ⟨fun n z => ⟨(fun k h => by cases h), ki, i2, coi, i3⟩, i1⟩
    | 1, hk =>
      cases hk
      exact ⟨fun n z => ⟨(fun k h => by cases h), kb, b2, cob, b3⟩, b1⟩
    | 2, hk =>
      cases hk
      exact ⟨fun n z => ⟨(fun k h => by cases h), kl, l2, col, l3⟩, l1⟩
    | k + 3, hk => cases hk
  · intro w hw hN
    have h1 := List.all_eq_true.mp a_onT w hw
    rw [hN] at h1
    exact va_Nw.of (by simpa using h1) (hts w hw)
  · intro _
    exact ⟨hX, hb⟩
  · intro i q hi
    have hi22 : i < 22 := by
      have : aSrf.length = 22 := rfl
      rw [← this]; exact (List.getElem?_eq_some_iff.mp hi).1
    have h1 := List.all_eq_true.mp a_srA q (List.mem_of_getElem? hi)
    simp only [decide_eq_true_eq] at h1
    have h2 := hK i hi22
    unfold a_tm at h2
    rw [hi] at h2
    exact vk_R.of (hts _ h1) h2
  · exact va_Zof (w8 (.laysStatic "java/lang/String" "COMPACT_STRINGS" "Z") (by simp [a_ls8])) (w8 (.initialized "java/lang/String") (by simp [a_ls8])) (va_eqi (hn _ a_m2)) hA
  · exact va_Zqof (w8 (.laysStatic "jdk/internal/util/Preconditions" "SIOOBE_FORMATTER" "Ljava/util/function/BiFunction;") (by simp [a_ls8])) (w8 (.initialized "jdk/internal/util/Preconditions") (by simp [a_ls8])) (hn _ a_m3) hA
  · exact a_LSt.of (w8 (.laysStatic "java/lang/Throwable" "UNASSIGNED_STACK" "[Ljava/lang/StackTraceElement;") (by simp [a_ls8])) (hn _ a_m4)
  · exact a_LSt.of (w8 (.laysStatic "java/lang/Throwable" "SUPPRESSED_SENTINEL" "Ljava/util/List;") (by simp [a_ls8])) (hn _ a_m5)
  · intro w hw _ ht
    exact va_Nw.of ht (hts w hw)
