/-! STEPS THAT TOUCH THE HEAP -/
theorem a_P1 {D : va_G} {cl : List vw_C} {q : Nat × va_E} {H : Heap} (h : va_at D cl q H) : va_P D cl [q] H := by
  intro k x hk
  cases k with
  | zero => cases hk; exact h
  | succ k => simp at hk
theorem a_getf_inv {c j t : Nat} {st st' : List Value} {h : aH} (hs : a_getf c j t st h = some st') : ∃ k r, st = .ref k :: r ∧ k < h.1 ∧ (h.2.2.1 k).1 = c ∧ j < (h.2.2.1 k).2 ∧ st' = a_slot h k j t :: r := by
  unfold a_getf at hs
  split at hs
  · split at hs
    · rename_i hk; cases hs; exact ⟨_, _, rfl, hk.1, hk.2.1, hk.2.2, rfl⟩
    · cases hs
  · cases hs
/-- the list of an object's values with one of them changed -/
theorem a_fs_upd {base : Nat} {cs : Nat → Nat} {h h' : aH} {k c j n : Nat} {v : Value} (hj : j < n) (he : a_cv base cs (a_slot h' k j (aFt c j)) = v) (ho : ∀ i, i ≠ j → ∀ t, a_slot h' k i t = a_slot h k i t) (i : Nat) :
    updV (vp_V ((List.range n).map (fun j => a_cv base cs (a_slot h k j (aFt c j))))) j v i = vp_V ((List.range n).map (fun j => a_cv base cs (a_slot h' k j (aFt c j)))) i := by
  unfold updV vp_V
  by_cases hi : i = j
  · subst hi
    rw [if_pos rfl]
    simp [List.getD, hj, he]
  · rw [if_neg hi]
    by_cases hn : i < n
    · simp [List.getD, hn, ho i hi]
    · simp [List.getD, hn]
theorem a_slot_setI {h : aH} {k j t : Nat} {x : Int32} (ht : t < 5) : a_slot (a_setI h k j x) k j t = .int x := by
  unfold a_slot
  rw [if_neg (by omega), if_neg (by omega)]
  simp [a_setI, a_up]
theorem a_slot_setI_ne {h : aH} {k j : Nat} {x : Int32} (i : Nat) (hi : i ≠ j) (t : Nat) : a_slot (a_setI h k j x) k i t = a_slot h k i t := by
  unfold a_slot
  simp [a_setI, a_up, hi]
theorem a_slot_setR {h : aH} {k j : Nat} {x : Option Nat} : a_slot (a_setR h k j x) k j 6 = va_rf x := by
  unfold a_slot
  rw [if_neg (by decide), if_pos rfl]
  simp [a_setR, a_up]
theorem a_slot_setR_ne {h : aH} {k j : Nat} {x : Option Nat} (i : Nat) (hi : i ≠ j) (t : Nat) : a_slot (a_setR h k j x) k i t = a_slot h k i t := by
  unfold a_slot
  simp [a_setR, a_up, hi]
section AG2
variable {base : Nat} {cs : Nat → Nat} {D : va_G} {cA : Nat → ClassId} {my : aMe} {c0 : Nat × Nat} {p : Program} {l : Launch} {e : Env} {R : Room} {s : State} {m : MethodId} {args : Array Value} {below : List Frame} {meth : Method} {c : Code} {Q : State → Prop} {pc pc' : Nat} {ls st ls' st' : List Value} {h h' : aH} {d : Nat}
theorem s_getf {i cc j t : Nat} (F : a_Fx my p R s m args meth c d) (K : va_K D aCl (a_tys cA) s) (hd : decode my.2.1 pc = .ok (.getfield i, 3)) (hc : cc < 12) (hj : j < (a_cn cc).2.2) (hdecl : ((a_cn cc).2.1 j).1 = (a_cn cc).1) (ht : t = aFt cc j)
    (hw : Cond.fieldLink my.1.cls i (a_cn cc).1 ((a_cn cc).2.1 j).2.1 ((a_cn cc).2.1 j).2.2.1 ∈ lw_good) (hs : a_getf cc j t st h = some st') (k : a_G base cs D cA my c0 p l e R s m args below meth c Q (pc + 3) ls st' h) : a_G base cs D cA my c0 p l e R s m args below meth c Q pc ls st h := by
  obtain ⟨q, r, rfl, hq, hk, hl, rfl⟩ := a_getf_inv hs
  intro H locs cells slots lsA M
  have hA := M.1.2.2 q hq
  rw [a_E_obj hk (by omega)] at hA
  show W p l e R s m args below meth c H locs cells slots Q (F0 m pc lsA (.ref (a_ad base cs q) :: r.map (a_cv base cs)))
  rw [a_ad_lt (Nat.lt_trans hq M.1.2.1)]
  refine va_get (ci := cc) F.1 F.2.1 F.2.2.2.2.1 (a_cl_in hc) F.2.2.2.1 K (a_P1 hA) 0 rfl (a_cl_at cc hc) j hj (F.2.2.2.2.1 _ hw) (fun x hx => by rw [← hdecl]; exact hx) (v := a_cv base cs (a_slot h q j t)) ?_ hd (k H locs cells slots lsA M)
  rw [ht]
  simp [hl]
/-- the heap with one cell changed -/
theorem a_M.put {q i : Nat} {H H1 : Heap} {locs : List Loc} {cells slots : Nat} {lsA : Array Slot} (M : a_M base cs D cA s my c0 ls h H locs cells slots lsA) (hq : q < h.1) (hn : h'.1 = h.1) (hct : h'.2.1 = h.2.1) (z : H1.size = H.size) (oq : ∀ x : Nat, x ≠ base + q → H1[x]? = H[x]?)
    (he : ∀ a, a ≠ q → a_E base cs cA h' a = a_E base cs cA h a) (hsc : h'.2.2.1 aSc = h.2.2.1 aSc ∧ h'.2.2.2.1 aSc = h.2.2.2.1 aSc) (hk : va_at D aCl (base + q, a_E base cs cA h' q) H1) : a_M base cs D cA s my c0 ls h' H1 (locs ++ [⟨base + q, i⟩]) cells slots lsA := by
  refine ⟨M.1.put hn z oq he hk, ⟨M.2.1.1, fun x hx => ?_⟩, fun x hx => ?_, M.2.2.2.1, by rw [hct]; exact M.2.2.2.2.1, ?_⟩
  · rw [oq x (by omega)]
    exact M.2.1.2 x hx
  · rcases List.mem_append.mp hx with h1 | h1
    · exact M.2.2.1 x h1
    · rw [List.mem_singleton.mp h1]
      exact Nat.le_add_right _ _
  · unfold a_Sx
    rw [hsc.1, hsc.2]
    exact M.2.2.2.2.2
theorem s_put0 {i cc j q : Nat} {v : Value} (F : a_Fx my p R s m args meth c d) (K : va_K D aCl (a_tys cA) s) (hd : decode my.2.1 pc = .ok (.putfield i, 3)) (hc : cc < 12) (hj : j < (a_cn cc).2.2) (hdecl : ((a_cn cc).2.1 j).1 = (a_cn cc).1)
    (hfin : ((a_cn cc).2.1 j).2.2.2 = true → (my.1.name = "<init>" ∧ my.1.cls = (a_cn cc).1)) (hw : Cond.fieldLink my.1.cls i (a_cn cc).1 ((a_cn cc).2.1 j).2.1 ((a_cn cc).2.1 j).2.2.1 ∈ lw_good) (hn : narrow (a_yt cc j) (a_cv base cs v) = a_cv base cs v) (hfit : fits (a_yt cc j) (a_cv base cs v) = true)
    (hq : q < h.1) (hk : (h.2.2.1 q).1 = cc) (hl : j < (h.2.2.1 q).2) (hn1 : h'.1 = h.1) (hct : h'.2.1 = h.2.1) (hkk : h'.2.2.1 = h.2.2.1) (hsc : h'.2.2.2.1 aSc = h.2.2.2.1 aSc) (he : ∀ a, a ≠ q → a_E base cs cA h' a = a_E base cs cA h a) (hv : a_cv base cs (a_slot h' q j (aFt cc j)) = a_cv base cs v) (ho : ∀ i, i ≠ j → ∀ t, a_slot h' q i t = a_slot h q i t)
    (k : a_G base cs D cA my c0 p l e R s m args below meth c Q (pc + 3) ls st h') : a_G base cs D cA my c0 p l e R s m args below meth c Q pc ls (v :: .ref q :: st) h := by
  intro H locs cells slots lsA M
  have hA := M.1.2.2 q hq
  rw [a_E_obj hk (by omega)] at hA
  show W p l e R s m args below meth c H locs cells slots Q (F0 m pc lsA (a_cv base cs v :: .ref (a_ad base cs q) :: st.map (a_cv base cs)))
  rw [a_ad_lt (Nat.lt_trans hq M.1.2.1)]
  have hap := va_apart (own := my.1.cls) F.2.2.2.2.1 (a_cl_in hc) (a_yt cc) (fun k hk => (a_cl_ty hc k hk).1) (a_cl_nm hc) K (a_cl_at cc hc)
  obtain ⟨r, h1, cell, q1, q2, q3, q4⟩ := hA
  have hr : r = a_cn cc := Option.some.inj (h1.symm.trans (a_cl_at cc hc))
  subst hr
  obtain ⟨hS, hfc, kC, hkC, hkind⟩ := K.1 cc _ (a_cl_at cc hc)
  obtain ⟨cf, kf, fi, f, hi, hsl⟩ := hS j hj
  have hlay := F.2.2.2.2.1 _ (a_cl_in hc _ (u_in_lay hj))
  have hst := (u_facts hfc hkC (u_lays F.2.2.2.2.1 (a_cl_in hc) hj) hi).1
  have hi2 : s.fieldFound? (a_cn cc).1 ((a_cn cc).2.1 j).2.1 ((a_cn cc).2.1 j).2.2.1 = some (cf, kf, fi, f) := by rw [← hdecl]; exact hi
  have fin : ∀ H' : Heap, H'[base + q]? = some (cell.setSlot f.slot (a_cv base cs v)) → H'.size = H.size → (∀ x, x ≠ base + q → H'[x]? = H[x]?) → W p l e R s m args below meth c H' (locs ++ [⟨base + q, f.slot⟩]) cells slots Q (F0 m (pc + 3) lsA (st.map (a_cv base cs))) := by
    intro H' e1 e2 e3
    refine k H' _ cells slots lsA (M.put hq hn1 hct e2 e3 he ⟨by rw [hkk], hsc⟩ ?_)
    have hk' : (h'.2.2.1 q).1 = cc := by rw [hkk]; exact hk
    rw [a_E_obj hk' (by omega), hkk]
    refine ⟨_, a_cl_at cc hc, t_OB.to (V := updV (vp_V ((List.range (h.2.2.1 q).2).map (fun j => a_cv base cs (a_slot h q j (aFt cc j))))) j (a_cv base cs v)) ⟨_, e1, q2, q3, ?_⟩ (fun x _ => a_fs_upd hl hv ho x)⟩
    rw [hsl]
    exact t_set q4 hap hj _
  unfold u_lay at hlay
  by_cases hf : ((a_cn cc).2.1 j).2.2.2 = true
  · rw [if_pos hf] at hlay
    have hcf : m.cls = cf := by
      obtain ⟨_, _, c', _, _, _, -, -, hf', -, -, -, hown2, -⟩ := Cond.laysFinal_spec hlay
      have e1 : c' = cf := by have := hi.symm.trans hf'; simp at this; exact this.1.symm
      rw [hdecl, ← (hfin hf).2] at hown2
      rw [← e1]; exact Option.some.inj (F.2.2.2.1.symm.trans hown2)
    have h6 := u_fits hfc hkC hkind (Or.inr hlay) hi (a_cl_ty hc j hj).1 hn hfit
    exact W.putFinK F.1 F.2.1 F.2.2.2.1 (F.2.2.2.2.1 _ hw) hi2 hst hcf (F.2.2.2.2.2.2.2.1 (hfin hf).1) (by rw [q2]; exact h6) q1 q3 (by rw [hsl]; exact k2_hasslot (q4 j hj)) rfl rfl hd fin
  · rw [if_neg hf] at hlay
    have h6 := u_store hfc hkC hkind hlay hi (a_cl_ty hc j hj).1 hn hfit
    exact W.putK F.1 F.2.1 (f := f) ⟨F.2.2.2.1, F.2.2.2.2.1 _ hw, ⟨_, _, _, hi2⟩, hst⟩ (by rw [q2]; exact h6) q1 q3 (by rw [hsl]; exact k2_hasslot (q4 j hj)) rfl rfl hd fin
theorem a_fit_ok {t : FieldType} {x : Int32} (ht : a_tcode t < 5) (hf : a_fit (a_tcode t) x = true) : narrow t (.int x) = .int x ∧ fits t (.int x) = true := by
  cases t with
  | int => exact ⟨rfl, rfl⟩
  | boolean =>
    have : x = 0 ∨ x = 1 := by simpa [a_fit, a_tcode] using hf
    rcases this with rfl | rfl <;> decide
  | byte => simp [a_fit, a_tcode] at hf
  | char => simp [a_fit, a_tcode] at hf
  | short => simp [a_fit, a_tcode] at hf
  | _ => simp [a_tcode] at ht
theorem a_ref_ok {t : FieldType} (ht : a_tcode t = 6) (q : Nat) : narrow t (.ref q) = .ref q ∧ fits t (.ref q) = true := by
  cases t with
  | object c => exact ⟨rfl, rfl⟩
  | array c => exact ⟨rfl, rfl⟩
  | _ => simp [a_tcode] at ht
theorem s_putf {i cc j t : Nat} (F : a_Fx my p R s m args meth c d) (K : va_K D aCl (a_tys cA) s) (hd : decode my.2.1 pc = .ok (.putfield i, 3)) (hc : cc < 12) (hj : j < (a_cn cc).2.2) (hdecl : ((a_cn cc).2.1 j).1 = (a_cn cc).1) (ht : t = aFt cc j)
    (hfin : ((a_cn cc).2.1 j).2.2.2 = true → (my.1.name = "<init>" ∧ my.1.cls = (a_cn cc).1)) (hw : Cond.fieldLink my.1.cls i (a_cn cc).1 ((a_cn cc).2.1 j).2.1 ((a_cn cc).2.1 j).2.2.1 ∈ lw_good)
    (hs : a_putf (pc + 3) cc j t ls st h = some (.inl (pc', ls', st', h'))) (hsc : h.1 < aSc) (k : a_G base cs D cA my c0 p l e R s m args below meth c Q pc' ls' st' h') : a_G base cs D cA my c0 p l e R s m args below meth c Q pc ls st h := by
  have hty := (a_cl_ty hc j hj).2
  unfold a_putf at hs
  split at hs
  · rename_i x q r
    split at hs
    · rename_i hq
      obtain ⟨⟨h1, h2, h3⟩, h4, h5⟩ := hq
      cases hs
      rw [ht, hty] at h4 h5
      obtain ⟨f1, f2⟩ := a_fit_ok h4 h5
      have hne : aSc ≠ q := fun z => absurd (Nat.lt_trans h1 hsc) (by rw [z]; exact Nat.lt_irrefl _)
      exact s_put0 (v := .int x) (h' := a_setI h q j x) F K hd hc hj hdecl hfin hw f1 f2 h1 h2 h3 rfl rfl rfl (a_up_ne _ _ _ hne) (fun a ha => a_E_setI j x ha) (by rw [a_slot_setI (by rw [hty]; exact h4)]) (fun i hi t => a_slot_setI_ne i hi t) k
    · cases hs
  · rename_i x q r
    split at hs
    · rename_i hq
      obtain ⟨⟨h1, h2, h3⟩, h4⟩ := hq
      cases hs
      rw [ht, hty] at h4
      obtain ⟨f1, f2⟩ := a_ref_ok h4 (a_ad base cs x)
      exact s_put0 (v := .ref x) (h' := a_setR h q j (some x)) F K hd hc hj hdecl hfin hw f1 f2 h1 h2 h3 rfl rfl rfl rfl (fun a ha => a_E_setR j _ ha) (by rw [hty, h4, a_slot_setR]; rfl) (fun i hi t => a_slot_setR_ne i hi t) k
    · cases hs
  · cases hs
end AG2
