/-! NEW CELLS, CONSTANTS, Object.<init> -/
theorem a_newa_inv {t : ArrayType} {pc pc' : Nat} {ls st ls' st' : List Value} {h h' : aH} (hs : a_newa t pc ls st h = some (.inl (pc', ls', st', h'))) : ∃ x r, st = .int x :: r ∧ ¬ x < 0 ∧ x.toNatClampNeg ≤ 1000000 ∧ h.1 + 1 < aSc ∧ (t = .int ∨ t = .byte ∨ t = .long) ∧ pc' = pc ∧ ls' = ls ∧ st' = .ref h.1 :: r ∧ h' = a_mk (a_acode t) x.toNatClampNeg h := by
  unfold a_newa at hs
  split at hs
  · split at hs
    · rename_i hk
      cases hs
      refine ⟨_, _, rfl, hk.1, hk.2.1, hk.2.2.1, ?_, rfl, rfl, rfl, rfl⟩
      have h4 := hk.2.2.2
      cases t <;> simp [a_acode] at h4 ⊢
    · cases hs
  · cases hs
section AG4
variable {base : Nat} {cs : Nat → Nat} {D : va_G} {cA : Nat → ClassId} {my : aMe} {c0 : Nat × Nat} {p : Program} {l : Launch} {e : Env} {R : Room} {s : State} {m : MethodId} {args : Array Value} {below : List Frame} {meth : Method} {c : Code} {Q : State → Prop} {pc pc' : Nat} {ls st ls' st' : List Value} {h h' : aH} {d : Nat}
theorem a_M.mk {cc len : Nat} {H H1 : Heap} {locs : List Loc} {cells slots : Nat} {lsA : Array Slot} (M : a_M base cs D cA s my c0 ls h H locs cells slots lsA) (hl : h.1 + 1 < aSc) (z : H1.size = H.size + 1) (oq : ∀ q : Nat, q < H.size → H1[q]? = H[q]?)
    (hk : va_at D aCl (base + h.1, a_E base cs cA (a_mk cc len h) h.1) H1) : a_M base cs D cA s my c0 ls (a_mk cc len h) H1 locs (cells + 1) (slots + len) lsA := by
  have hb : base ≤ H.size := by rw [M.1.1]; exact Nat.le_add_right _ _
  refine ⟨M.1.mk hl z oq hk, ⟨M.2.1.1, fun x hx => ?_⟩, M.2.2.1, M.2.2.2.1, ⟨?_, ?_⟩, ?_⟩
  · rw [oq x (by omega)]
    exact M.2.1.2 x hx
  · have := M.2.2.2.2.1.1
    show c0.1 + (cells + 1) = h.2.1.1 + 1
    omega
  · have := M.2.2.2.2.1.2
    show c0.2 + (slots + len) = h.2.1.2 + len
    omega
  · have hne : aSc ≠ h.1 := by have := M.1.2.1; omega
    have e1 : (a_mk cc len h).2.2.1 aSc = h.2.2.1 aSc := if_neg hne
    have e2 : (a_mk cc len h).2.2.2.1 aSc = h.2.2.2.1 aSc := if_neg hne
    unfold a_Sx
    rw [e1, e2]
    exact M.2.2.2.2.2
theorem a_new_eq {α : Type} (f : Nat → Nat → α) (k : Nat) (v : α) : a_new f k v k = fun _ => v := if_pos rfl
theorem s_newa {t : ArrayType} (F : a_Fx my p R s m args meth c d) (K : va_K D aCl (a_tys cA) s) (hd : decode my.2.1 pc = .ok (.newarray t, 2)) (hw : Cond.arrayClass (newarray.typeOf t) ∈ lw_good) (hs : a_newa t (pc + 2) ls st h = some (.inl (pc', ls', st', h'))) (hR : h'.2.1.1 ≤ c0.1 + R.cells ∧ h'.2.1.2 ≤ c0.2 + R.slots)
    (k : a_G base cs D cA my c0 p l e R s m args below meth c Q pc' ls' st' h') : a_G base cs D cA my c0 p l e R s m args below meth c Q pc ls st h := by
  obtain ⟨x, r, rfl, hx, hx2, hl, ht, rfl, rfl, rfl, rfl⟩ := a_newa_inv hs
  intro H locs cells slots lsA M
  have hR1 : h.2.1.1 + 1 ≤ c0.1 + R.cells := hR.1
  have hR2 : h.2.1.2 + x.toNatClampNeg ≤ c0.2 + R.slots := hR.2
  have hM := M.2.2.2.2.1
  refine va_newaK F.1 F.2.1 (F.2.2.2.2.1 _ hw) rfl hd rfl hx rfl ?_ (by omega) (by omega) rfl fun H1 cN e1 z1 o1 hAr hNm => ?_
  · rcases ht with rfl | rfl | rfl <;> simp [newarray.typeOf, componentBytes] <;> omega
  · have hk : va_at D aCl (base + h.1, a_E base cs cA (a_mk (a_acode t) x.toNatClampNeg h) h.1) H1 := by
      have ek : ((a_mk (a_acode t) x.toNatClampNeg h).2.2.1 h.1) = (a_acode t, x.toNatClampNeg) := if_pos rfl
      rw [← M.1.1]
      rcases ht with rfl | rfl | rfl
      · have hc : cN = cA 1000 := Option.some.inj (hNm.symm.trans (K.2 0 _ rfl).2)
        rw [a_E_arr (c := 1000) (by rw [ek]; rfl) (by decide) (by decide), ek]
        show H1[H.size]? = some (vp_cell _ _)
        rw [e1, hc]
        show _ = some (vp_cell (cA 1000) (x.toNatClampNeg, .inl (a_new h.2.2.2.1 h.1 0 h.1)))
        rw [a_new_eq]
        rfl
      · have hc : cN = cA 1001 := Option.some.inj (hNm.symm.trans (K.2 1 _ rfl).2)
        rw [a_E_arr (c := 1001) (by rw [ek]; rfl) (by decide) (by decide), ek]
        show H1[H.size]? = some (vp_cell _ _)
        rw [e1, hc]
        show _ = some (vp_cell (cA 1001) (x.toNatClampNeg, .inl (a_new h.2.2.2.1 h.1 0 h.1)))
        rw [a_new_eq]
        rfl
      · have hc : cN = cA 1004 := Option.some.inj (hNm.symm.trans (K.2 2 _ rfl).2)
        rw [a_E_arl (by rw [ek]; rfl), ek]
        show H1[H.size]? = some (vp_cell _ _)
        rw [e1, hc]
        show _ = some (vp_cell (cA 1004) (x.toNatClampNeg, .inr (.inl (a_new h.2.2.2.2.1 h.1 0 h.1))))
        rw [a_new_eq]
        rfl
    have kk := k H1 locs (cells + 1) (slots + x.toNatClampNeg) lsA (M.mk hl z1 o1 hk)
    have ea : a_ad base cs h.1 = H.size := by rw [a_ad_lt (by omega), M.1.1]
    have kk2 : W p l e R s m args below meth c H1 locs (cells + 1) (slots + x.toNatClampNeg) Q (F0 m (pc + 2) lsA (.ref (a_ad base cs h.1) :: r.map (a_cv base cs))) := kk
    rw [ea] at kk2
    exact kk2
theorem a_slot_mk {h : aH} {c len j t : Nat} : a_slot (a_mk c len h) h.1 j t = if t = 5 then .long 0 else if t = 6 then .null else .int 0 := by
  unfold a_slot a_mk
  simp only [a_new_eq]
  rfl
theorem a_def_ok {t : FieldType} (ht : a_tcode t < 7) : defaultValue t = (if a_tcode t = 5 then .long 0 else if a_tcode t = 6 then .null else .int 0) := by
  cases t with
  | int => rfl
  | boolean => rfl
  | byte => rfl
  | char => rfl
  | short => rfl
  | long => rfl
  | object c => rfl
  | array c => rfl
  | _ => simp [a_tcode] at ht
theorem aFt_lt : ∀ l ∈ aFts, ∀ t ∈ l, t < 7 := by decide +kernel
theorem a_getD_lt {l : List Nat} (h : ∀ t ∈ l, t < 7) (j : Nat) : l.getD j 0 < 7 := by
  rw [List.getD_eq_getElem?_getD]
  cases hj : l[j]? with
  | none => exact Nat.zero_lt_succ _
  | some t => exact h t (List.mem_of_getElem? hj)
theorem aFt_le (c j : Nat) : aFt c j < 7 := by
  unfold aFt
  refine a_getD_lt (fun t ht => ?_) j
  rw [List.getD_eq_getElem?_getD] at ht
  cases hc : aFts[c]? with
  | none => rw [hc] at ht; cases ht
  | some l => rw [hc] at ht; exact aFt_lt l (List.mem_of_getElem? hc) t ht
theorem s_new {i cc : Nat} (F : a_Fx my p R s m args meth c d) (K : va_K D aCl (a_tys cA) s) (hd : decode my.2.1 pc = .ok (.new i, 3)) (hc : cc < 12) (hw : Cond.classLink my.1.cls i (a_cn cc).1 ∈ lw_good ∧ Cond.instantiable (a_cn cc).1 (a_cn cc).2.2 ∈ lw_good ∧ Cond.initialized (a_cn cc).1 ∈ lw_good) (hl : h.1 + 1 < aSc) (hR : h.2.1.1 + 1 ≤ c0.1 + R.cells ∧ h.2.1.2 + aNf cc ≤ c0.2 + R.slots)
    (k : a_G base cs D cA my c0 p l e R s m args below meth c Q (pc + 3) ls (.ref h.1 :: st) (a_mk cc (aNf cc) h)) : a_G base cs D cA my c0 p l e R s m args below meth c Q pc ls st h := by
  intro H locs cells slots lsA M
  have hM := M.2.2.2.2.1
  have hnf : aNf cc = (a_cn cc).2.2 := by unfold aNf; rw [a_cl_at cc hc]
  have hKn := K.1 cc _ (a_cl_at cc hc)
  rw [hnf] at k hR
  refine W.newcK F.1 F.2.1 F.2.2.2.1 (F.2.2.2.2.1 _ hw.1) (F.2.2.2.2.1 _ hw.2.1) (F.2.2.2.2.1 _ hw.2.2) rfl hd (by omega) (by omega) hKn.2.1 rfl fun H1 kC hkC e1 z1 o1 => ?_
  have ek : ((a_mk cc (a_cn cc).2.2 h).2.2.1 h.1) = (cc, (a_cn cc).2.2) := if_pos rfl
  have hk : va_at D aCl (base + h.1, a_E base cs cA (a_mk cc (a_cn cc).2.2 h) h.1) H1 := by
    rw [a_E_obj (c := cc) (by rw [ek]) (by omega), ek, ← M.1.1]
    refine ⟨_, a_cl_at cc hc, (u_born (a_yt cc) F.2.2.2.2.1 (a_cl_in hc) hKn hkC e1 (fun k hk => (a_cl_ty hc k hk).1)).to (fun j hj => ?_)⟩
    have h7 : a_tcode (a_yt cc j) < 7 := by rw [← (a_cl_ty hc j hj).2]; exact aFt_le cc j
    rw [a_def_ok h7]
    unfold vp_V
    simp only [List.getD, List.getElem?_map, List.getElem?_range hj, Option.map_some, Option.getD_some, a_slot_mk, (a_cl_ty hc j hj).2]
    split
    · rfl
    · split <;> rfl
  have kk := k H1 locs (cells + 1) (slots + (a_cn cc).2.2) lsA (M.mk hl z1 o1 hk)
  have ea : a_ad base cs h.1 = H.size := by rw [a_ad_lt (by omega), M.1.1]
  have kk2 : W p l e R s m args below meth c H1 locs (cells + 1) (slots + (a_cn cc).2.2) Q (F0 m (pc + 3) lsA (.ref (a_ad base cs h.1) :: st.map (a_cv base cs))) := kk
  rw [ea] at kk2
  exact kk2
theorem s_ldc {i a : Nat} (F : a_Fx my p R s m args meth c d) (hd : decode my.2.1 pc = .ok (.ldc i, 2)) (hw : Cond.constant my.1.cls i (Int32.ofNat a) ∈ lw_good) (k : a_G base cs D cA my c0 p l e R s m args below meth c Q (pc + 2) ls (.int (Int32.ofNat a) :: st) h) : a_G base cs D cA my c0 p l e R s m args below meth c Q pc ls st h :=
  fun H locs cells slots lsA M => lv_ldc F.1 F.2.1 F.2.2.2.1 (F.2.2.2.2.1 _ hw) hd (k H locs cells slots lsA M)
theorem s_ldcw {i a : Nat} (F : a_Fx my p R s m args meth c d) (hd : decode my.2.1 pc = .ok (.ldc_w i, 3)) (hw : Cond.constant my.1.cls i (Int32.ofNat a) ∈ lw_good) (k : a_G base cs D cA my c0 p l e R s m args below meth c Q (pc + 3) ls (.int (Int32.ofNat a) :: st) h) : a_G base cs D cA my c0 p l e R s m args below meth c Q pc ls st h :=
  fun H locs cells slots lsA M => lv_ldcw F.1 F.2.1 F.2.2.2.1 (F.2.2.2.2.1 _ hw) hd (k H locs cells slots lsA M)
theorem s_objI {i : Nat} {q : Nat} (F : a_Fx my p R s m args meth c d) (hd : decode my.2.1 pc = .ok (.invokespecial i, 3)) (hw : Cond.methodLink my.1.cls i objectInit ∈ lw_good) (hw2 : Cond.instanceMethod objectInit ∈ lw_good ∧ Cond.code objectInit ⟨#[0xb1]⟩ 1 none ∈ lw_good) (hst : (st.map fun v => v.category).sum ≤ 8)
    (k : a_G base cs D cA my c0 p l e R s m args below meth c Q (pc + 3) ls st h) : a_G base cs D cA my c0 p l e R s m args below meth c Q pc ls (.ref q :: st) h := by
  intro H locs cells slots lsA M
  have hf := F.2.2.2.2.2.2.2.2
  refine W.objInit F.1 F.2.1 F.2.2.2.1 (F.2.2.2.2.1 _ hw) (F.2.2.2.2.1 _ hw2.1) (F.2.2.2.2.1 _ hw2.2) rfl (by rw [F.2.2.1]; exact M.2.2.2.1.1) (a := a_ad base cs q) (rest := st.map (a_cv base cs)) rfl hd (by omega) ?_ (k H locs cells slots lsA M)
  have e1 : ((st.map (a_cv base cs)).map fun v => v.category) = st.map fun v => v.category := by
    rw [List.map_map]
    exact List.map_congr_left (fun v _ => a_cv_cat base cs v)
  have e2 : (F0 m pc lsA ((.ref q :: st).map (a_cv base cs))).monitorRoom = 0 := rfl
  rw [e1]
  omega
end AG4
