/-! THE REFERENCE MAKES PARTS: applications, signs, what waits -/
section
variable {B : aH} {v : Nat → Int}
theorem KpT.rf (s : aZ) : KpT s s := ⟨⟨rfl, rfl, rfl, rfl⟩, fun _ _ => rfl⟩
theorem m_applied (hB : a_Can B) {d : Nat} (hd : 2 ≤ d) {s : aZ} (l : aZL) {Q W dep wt bd : Nat} (hS : MS Q W dep wt bd s) (hQ : Q < 30100) {f x : aT} {pf px : Nat} (hf : PH s v W Q f pf) (hx : PH s v W Q x px) : a_W d 174 0 [.ref 56, iv (pf : Int), iv (px : Int)] [] (mkH B s l) (fun q => ∃ s2, q = (.inl (some (iv (Q : Int))), mkH B s2 l) ∧ MS (Q + 1) W dep wt bd s2 ∧ (∀ W wt bd, FP Q W wt bd s s2 l l) ∧ KpT s s2 ∧ PH s2 v W (Q + 1) (apT f x) Q) := by
  obtain ⟨f1, f2, f3⟩ := hf.top
  obtain ⟨g1, g2, g3⟩ := hx.top
  rw [natc] at f2 f3 g2 g3
  refine w174_0 hB (by omega) _ _ s l ⟨⟨by omega, by omega⟩, ⟨by omega, by omega⟩, ?_⟩
  rw [natc, natc, f2, f3, g2, g3]
  have e175 : z175 (min (tmH f : Int) 100000) (min (tmH x : Int) 100000) = max (min (tmH f : Int) 100000) (min (tmH x : Int) 100000) := by unfold z175; omega
  rw [e175]
  refine a_W.imp (m_part hB s l Q hQ hS.1 _ _ _ _ _ _ ⟨by omega, by omega⟩ ⟨by omega, by omega⟩) ?_
  rintro _ rfl
  obtain ⟨a1, a2, a3, a4, a5, a6, a7⟩ := nwT_at s Q 3 (pf : Int) (px : Int) (-1) (min (1 + min (tmW f : Int) 100000 + min (tmW x : Int) 100000) 100000) (min (1 + max (min (tmH f : Int) 100000) (min (tmH x : Int) 100000)) 100000) hQ (by decide) ⟨by omega, by omega⟩ ⟨by omega, by omega⟩ (by decide) ⟨by omega, by omega⟩ ⟨by omega, by omega⟩
  have hfp : ∀ W wt bd, FP Q W wt bd s (nwT s Q 3 (pf : Int) (px : Int) (-1) (min (1 + min (tmW f : Int) 100000 + min (tmW x : Int) 100000) 100000) (min (1 + max (min (tmH f : Int) 100000) (min (tmH x : Int) 100000)) 100000)) l l := fun W wt bd => FP.nw W wt bd s l Q _ _ _ _ _ _
  refine ⟨_, _, l, rfl, _, rfl, hS.nw hQ _ _ _ _ _ _, hfp, KpT.nw s Q _ _ _ _ _ _, ⟨by omega, by omega⟩, ?_, ?_, Or.inl ⟨rfl, ?_, ?_, ?_⟩⟩
  · rw [natc, a5]
    show _ = min ((1 + (tmW f + tmW x) : Nat) : Int) 100000
    omega
  · rw [natc, a6]
    show _ = min ((1 + max (tmH f) (tmH x) : Nat) : Int) 100000
    omega
  · rw [natc]; exact a1
  · rw [natc, a2]
    exact PH.keep (hfp W 0 0).2.1 (hfp W 0 0).2.2.1 (by omega) (Nat.le_refl _) _ _ hf
  · rw [natc, a3]
    exact PH.keep (hfp W 0 0).2.1 (hfp W 0 0).2.2.1 (by omega) (Nat.le_refl _) _ _ hx
/-- a leaf -/
theorem m_leafP (hB : a_Can B) {d : Nat} {s : aZ} (l : aZL) {Q W dep wt bd : Nat} (hS : MS Q W dep wt bd s) (hQ : Q < 30100) (q : Nat × Nat) (x1 x2 x3 : Int) (h2 : inR x2) (h3 : inR x3) (hv : q.1 = 2 → q.2 ≤ 49) (hh : (q.1 = 0 ∧ x1 = 0 ∧ x2 = q.2) ∨ (q.1 = 1 ∧ x1 = 1 ∧ ((q.2 ≤ 13 ∧ x2 = sgC q.2) ∨ (14 ≤ q.2 ∧ x2 = -1 ∧ x3 = kM q.2))) ∨ (q.1 = 2 ∧ x1 = 2 ∧ x2 = q.2)) : a_W d 172 0 [.ref 56, iv x1, iv x2, iv x3, iv (-1), iv (tmW (.leaf q) : Int), iv (tmH (.leaf q) : Int)] [] (mkH B s l) (fun r => ∃ s2, r = (.inl (some (iv (Q : Int))), mkH B s2 l) ∧ MS (Q + 1) W dep wt bd s2 ∧ (∀ W wt bd, FP Q W wt bd s s2 l l) ∧ KpT s s2 ∧ PH s2 v W (Q + 1) (.leaf q) Q) := by
  have tw : tmW (.leaf q) ≤ 99 ∧ tmH (.leaf q) ≤ 50 := by
    show (if q.1 = 2 then 2 * q.2 + 1 else 1) ≤ 99 ∧ (if q.1 = 2 then q.2 + 1 else 1) ≤ 50
    split
    · rename_i c
      have := hv c
      omega
    · omega
  refine a_W.imp (m_part hB s l Q hQ hS.1 _ _ _ _ _ _ ⟨by omega, by omega⟩ ⟨by omega, by omega⟩) ?_
  rintro _ rfl
  have h1 : inR x1 := by rcases hh with ⟨-, h, -⟩ | ⟨-, h, -⟩ | ⟨-, h, -⟩ <;> rw [h] <;> decide
  obtain ⟨a1, a2, a3, a4, a5, a6, a7⟩ := nwT_at s Q x1 x2 x3 (-1) (min (tmW (.leaf q) : Int) 100000) (min (tmH (.leaf q) : Int) 100000) hQ h1 h2 h3 (by decide) ⟨by omega, by omega⟩ ⟨by omega, by omega⟩
  refine ⟨_, rfl, hS.nw hQ _ _ _ _ _ _, fun W wt bd => FP.nw W wt bd s l Q _ _ _ _ _ _, KpT.nw s Q _ _ _ _ _ _, ⟨by omega, by omega⟩, ?_, ?_, ?_⟩
  · rw [natc]; exact a5
  · rw [natc]; exact a6
  · rw [natc, a1, a2, a3]; exact hh
/-- the constant of ! ? @ ~ -/
theorem m_sign (hB : a_Can B) {d : Nat} (hd : 1 ≤ d) {s : aZ} (l : aZL) {Q W dep wt bd : Nat} (hS : MS Q W dep wt bd s) (hQ : Q < 30100) (k : Nat) (hk : 10 ≤ k ∧ k ≤ 13) (c : Int) (hc : c = sgC k) : a_W d 173 0 [.ref 56, iv c, iv 0] [] (mkH B s l) (fun r => ∃ s2, r = (.inl (some (iv (Q : Int))), mkH B s2 l) ∧ MS (Q + 1) W dep wt bd s2 ∧ (∀ W wt bd, FP Q W wt bd s s2 l l) ∧ KpT s s2 ∧ PH s2 v W (Q + 1) (sgT k) Q) := by
  have hr : inR c := by rw [hc]; unfold sgC; constructor <;> omega
  refine w173_0 hB (by omega) c 0 s l ⟨by decide, fun _ => ?_, fun c => absurd rfl c⟩
  refine a_W.imp (m_leafP (v := v) hB l hS hQ (1, k) 1 c 0 hr (by decide) (fun c => absurd (show (1 : Nat) = 2 from c) (by decide)) (Or.inr (Or.inl ⟨rfl, rfl, Or.inl ⟨hk.2, hc⟩⟩))) ?_
  rintro _ ⟨s2, rfl, h⟩
  exact ⟨_, s2, l, rfl, s2, rfl, h⟩
theorem kM_op {k : Int} (h : 14 ≤ k ∧ k ≤ 22) : kM k = k + 6 := by unfold kM; omega
theorem st_cmp {o : Nat} (ho : 14 ≤ o ∧ o ≤ 22) {k : Int} (hk : k = 0 ∨ (14 ≤ k ∧ k ≤ 22)) : (z182 (kM k) < z182 (kM (o : Int)) ∨ (z182 (kM (o : Int)) = z182 (kM k) ∧ 26 < kM k)) ↔ z104 (z96 (o : Int)) (z96 k) ≠ 0 := by
  rcases (show o = 14 ∨ o = 15 ∨ o = 16 ∨ o = 17 ∨ o = 18 ∨ o = 19 ∨ o = 20 ∨ o = 21 ∨ o = 22 by omega) with rfl | rfl | rfl | rfl | rfl | rfl | rfl | rfl | rfl <;> rcases (show k = 0 ∨ k = 14 ∨ k = 15 ∨ k = 16 ∨ k = 17 ∨ k = 18 ∨ k = 19 ∨ k = 20 ∨ k = 21 ∨ k = 22 by omega) with rfl | rfl | rfl | rfl | rfl | rfl | rfl | rfl | rfl | rfl <;> decide
/-- what waits and holds more strongly is applied -/
theorem m_settled (hB : a_Can B) {d : Nat} (hd : 3 ≤ d) (l : aZL) {W dep bd wt0 : Nat} (x2 : Int) (k : Int) (hk : k = 0 ∨ (14 ≤ k ∧ k ≤ 22)) : ∀ (st : aSt) (x : aT) (p Q : Nat) (u5 : Value) (s : aZ), (∀ q ∈ st, 14 ≤ q.1 ∧ q.1 ≤ 22) → MS Q W dep (wt0 + st.length) bd s → Q + 3 * st.length ≤ 30000 → wt0 + st.length ≤ 6000 → SK s v W Q st (wt0 + st.length) → PH s v W Q x p → a_W d 181 3 [.ref 56, iv (wt0 : Int), iv x2, iv (kM k), iv (p : Int), u5] [] (mkH B s l) (fun q => ∃ (s2 : aZ) (p2 Q2 : Nat), q = (.inl (some (iv (p2 : Int))), mkH B s2 l) ∧ MS Q2 W dep (wt0 + (stl (z96 k) st x).1.length) bd s2 ∧ SK s2 v W Q2 (stl (z96 k) st x).1 (wt0 + (stl (z96 k) st x).1.length) ∧ PH s2 v W Q2 (stl (z96 k) st x).2 p2 ∧ (∀ W wt bd, FP Q W wt bd s s2 l l) ∧ KpT s s2 ∧ Q ≤ Q2 ∧ Q2 + 3 * (stl (z96 k) st x).1.length = Q + 3 * st.length) := by
  have hkr : 0 ≤ kM k ∧ kM k ≤ 28 := by
    rcases hk with rfl | h
    · decide
    · rw [kM_op h]; omega
  intro st
  induction st with
  | nil =>
    intro x p Q u5 s _ hS _ hw _ hP
    have e48 : zz s 56 48 = (wt0 : Nat) := hS.2.2.2.1
    have hw : wt0 ≤ 6000 := hw
    refine w181_3 hB (by omega) _ _ _ _ _ s l ⟨⟨by omega, by omega⟩, fun _ => w181_115 hB _ _ _ _ _ s l ⟨s, p, Q, rfl, hS, trivial, hP, fun W wt bd => FP.rf _ _ _ _ _ _, KpT.rf s, Nat.le_refl _, rfl⟩, fun c => absurd c (by omega)⟩
  | cons q st ih =>
    intro x p Q u5 s hq hS hQ hw hK hP
    have e48 : zz s 56 48 = ((wt0 + st.length + 1 : Nat) : Int) := hS.2.2.2.1
    obtain ⟨h88, ⟨pl, h89, hpl⟩, hK⟩ := (show SK s v W Q (q :: st) (wt0 + st.length + 1) from hK)
    rw [List.length_cons] at hQ hw
    have ho := hq q List.mem_cons_self
    have cmp := st_cmp ho hk
    have e1 : (zz s 56 48 - 1).toNat = wt0 + st.length := by omega
    by_cases hz : z104 (z96 (q.1 : Int)) (z96 k) ≠ 0
    · have hc := cmp.mpr hz
      rw [stl_c, if_pos hz]
      have g59 : a_W d 181 59 [.ref 56, iv (wt0 : Int), iv x2, iv (kM k), iv (p : Int), u5] [] (mkH B s l) (fun r => ∃ (s2 : aZ) (p2 Q2 : Nat), r = (.inl (some (iv (p2 : Int))), mkH B s2 l) ∧ MS Q2 W dep (wt0 + (stl (z96 k) st (opT q.1 q.2 x)).1.length) bd s2 ∧ SK s2 v W Q2 (stl (z96 k) st (opT q.1 q.2 x)).1 (wt0 + (stl (z96 k) st (opT q.1 q.2 x)).1.length) ∧ PH s2 v W Q2 (stl (z96 k) st (opT q.1 q.2 x)).2 p2 ∧ (∀ W wt bd, FP Q W wt bd s s2 l l) ∧ KpT s s2 ∧ Q ≤ Q2 ∧ Q2 + 3 * (stl (z96 k) st (opT q.1 q.2 x)).1.length = Q + 3 * (q :: st).length) := by
        refine w181_59 hB (by omega) _ _ _ _ _ s l ⟨⟨by omega, by omega⟩, ?_⟩
        rw [e1, h88, show zz s 56 48 - 1 = ((wt0 + st.length : Nat) : Int) by omega]
        have f1 : ∀ W wt bd, FP Q W wt bd s (zu s 56 48 ((wt0 + st.length : Nat) : Int)) l l := fun W wt bd => FP.z56 Q W wt bd s l 48 _ (by decide)
        have k1 : KpT s (zu s 56 48 ((wt0 + st.length : Nat) : Int)) := KpT.z56 s 48 _ (by decide)
        have s1 : MS Q W dep (wt0 + st.length) bd (zu s 56 48 ((wt0 + st.length : Nat) : Int)) := ⟨(zz_ne _ _ _ _ _ _ (by omega)).trans hS.1, (zz_ne _ _ _ _ _ _ (by omega)).trans hS.2.1, (zz_ne _ _ _ _ _ _ (by omega)).trans hS.2.2.1, zz_same _ _ _ ⟨by omega, by omega⟩, (zz_ne _ _ _ _ _ _ (by omega)).trans hS.2.2.2.2⟩
        generalize (zu s 56 48 ((wt0 + st.length : Nat) : Int)) = s' at *
        refine a_W.imp (m_leafP (v := v) hB l s1 (by omega) (1, q.1) 1 (-1) (kM (q.1 : Int)) (by decide) ⟨by rw [kM_op ⟨by omega, by omega⟩]; omega, by rw [kM_op ⟨by omega, by omega⟩]; omega⟩ (fun c => absurd (show (1 : Nat) = 2 from c) (by decide)) (Or.inr (Or.inl ⟨rfl, rfl, Or.inr ⟨ho.1, rfl, rfl⟩⟩))) ?_
        rintro _ ⟨s2, rfl, m2, f2, k2, p2⟩
        have f2' : ∀ W wt bd, FP Q W wt bd s s2 l l := fun W wt bd => (f1 W wt bd).tr (f2 W wt bd) ⟨Nat.le_refl _, Nat.le_refl _, Nat.le_refl _, Nat.le_refl _⟩
        have e2 : zz s2 56 48 = ((wt0 + st.length : Nat) : Int) := m2.2.2.2.1
        refine ⟨_, s2, l, rfl, ⟨by omega, by omega⟩, ?_⟩
        rw [e2, natc, ((f2' W (wt0 + st.length + 1) 0).2.2.2.1 (wt0 + st.length) (by omega)).2, h89]
        refine a_W.imp (m_applied hB (by omega) l m2 (by omega) p2 (PH.keep (f2' W 0 0).2.1 (f2' W 0 0).2.2.1 (by omega) (Nat.le_refl _) _ _ hpl)) ?_
        rintro _ ⟨s3, rfl, m3, f3, k3, p3⟩
        have f3' : ∀ W wt bd, FP Q W wt bd s s3 l l := fun W wt bd => (f2' W wt bd).tr (f3 W wt bd) ⟨by omega, Nat.le_refl _, Nat.le_refl _, Nat.le_refl _⟩
        refine ⟨_, s3, l, rfl, a_W.imp (m_applied hB (by omega) l m3 (by omega) p3 (PH.keep (f3' W 0 0).2.1 (f3' W 0 0).2.2.1 (by omega) (Nat.le_refl _) _ _ hP)) ?_⟩
        rintro _ ⟨s4, rfl, m4, f4, k4, p4⟩
        have f4' : ∀ W wt bd, FP Q W wt bd s s4 l l := fun W wt bd => (f3' W wt bd).tr (f4 W wt bd) ⟨by omega, Nat.le_refl _, Nat.le_refl _, Nat.le_refl _⟩
        refine ⟨_, s4, l, rfl, a_W.imp (ih (opT q.1 q.2 x) (Q + 1 + 1) (Q + 1 + 1 + 1) _ s4 (fun r hr => hq r (List.mem_cons_of_mem _ hr)) m4 (by omega) (by omega) (SK.keep (f4' W 0 0).2.1 (f4' W 0 0).2.2.1 (by omega) (Nat.le_refl _) st (wt0 + st.length) (f4' W (wt0 + st.length) 0).2.2.2.1 hK) p4) ?_⟩
        rintro _ ⟨s5, p5, Q5, rfl, m5, sk5, ph5, f5, k5, q5, r5⟩
        refine ⟨s5, p5, Q5, rfl, m5, sk5, ph5, fun W wt bd => (f4' W wt bd).tr (f5 W wt bd) ⟨by omega, Nat.le_refl _, Nat.le_refl _, Nat.le_refl _⟩, (k1.tr k2).tr (k3.tr (k4.tr k5)), by omega, ?_⟩
        rw [List.length_cons]
        omega
      refine w181_3 hB (by omega) _ _ _ _ _ s l ⟨⟨by omega, by omega⟩, fun c => absurd c (by omega), fun _ => ⟨⟨by omega, by omega⟩, ⟨by omega, by omega⟩, fun _ => g59, fun c1 => ⟨fun c2 => ?_, fun c2 => ⟨fun c3 => ?_, fun _ => g59⟩⟩⟩⟩
      · rw [e1, h88] at c1 c2
        omega
      · rw [e1, h88] at c1 c2
        omega
    · have hc : ¬ _ := fun c => hz (cmp.mp c)
      rw [stl_c, if_neg hz]
      have fin : a_W d 181 115 [.ref 56, iv (wt0 : Int), iv x2, iv (kM k), iv (p : Int), u5] [] (mkH B s l) (fun r => ∃ (s2 : aZ) (p2 Q2 : Nat), r = (.inl (some (iv (p2 : Int))), mkH B s2 l) ∧ MS Q2 W dep (wt0 + (q :: st).length) bd s2 ∧ SK s2 v W Q2 (q :: st) (wt0 + (q :: st).length) ∧ PH s2 v W Q2 x p2 ∧ (∀ W wt bd, FP Q W wt bd s s2 l l) ∧ KpT s s2 ∧ Q ≤ Q2 ∧ Q2 + 3 * (q :: st).length = Q + 3 * (q :: st).length) := w181_115 hB _ _ _ _ _ s l ⟨s, p, Q, rfl, hS, (show SK s v W Q (q :: st) (wt0 + st.length + 1) from ⟨h88, ⟨pl, h89, hpl⟩, hK⟩), hP, fun W wt bd => FP.rf _ _ _ _ _ _, KpT.rf s, Nat.le_refl _, rfl⟩
      refine w181_3 hB (by omega) _ _ _ _ _ s l ⟨⟨by omega, by omega⟩, fun c => absurd c (by omega), fun _ => ⟨⟨by omega, by omega⟩, ⟨by omega, by omega⟩, fun c1 => ?_, fun c1 => ⟨fun _ => fin, fun c2 => ⟨fun _ => fin, fun c3 => ?_⟩⟩⟩⟩
      · rw [e1, h88] at c1
        exact absurd (Or.inl c1) hc
      · rw [e1, h88] at c1 c2
        exact absurd (Or.inr ⟨c2, c3⟩) hc
end
