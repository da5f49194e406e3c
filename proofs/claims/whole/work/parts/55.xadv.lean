/-! THE READER'S NEXT TOKEN -/
def tot (ns : List (List Int)) : Nat := (ns.map List.length).sum
theorem tot_app (ns : List (List Int)) (nm : List Int) : tot (ns ++ [nm]) = tot ns + nm.length := by
  unfold tot
  simp
theorem NTs.tot {P PL PS : Nat} {ns : List (List Int)} {s : aZ} (h : NTs P PL PS ns s) : zz s PS ns.length = tot ns := by
  have key : ∀ m, m ≤ ns.length → zz s PS m = ((ns.take m).map List.length).sum := by
    intro m
    induction m with
    | zero => intro _; exact h.2.1
    | succ m ih =>
      intro hm
      rw [(h.2.2 m (by omega)).1, ih (by omega), List.take_succ, List.map_append, List.sum_append]
      have hl : ns[m]? = some (ns[m]'(by omega)) := List.getElem?_eq_getElem (by omega)
      rw [List.getD_eq_getElem?_getD, hl]
      simp
  have := key ns.length (Nat.le_refl _)
  rw [List.take_length] at this
  exact this
def adn (ns : List (List Int)) (nm : List Int) : List (List Int) := if fd ns nm ns.length < 0 then ns ++ [nm] else ns
def ixn (ns : List (List Int)) (nm : List Int) : Int := if fd ns nm ns.length < 0 then (ns.length : Int) else fd ns nm ns.length
def nmT (t : Nat → Int) (n p : Nat) : List Int := seg t (p + 1) (wd t (n - (p + 1)) (p + 1) - (p + 1))
def tkNs (t : Nat → Int) (n p : Nat) (ns : List (List Int)) : List (List Int) := if tkK t n p = 2 ∧ tkF t n p = 0 then adn ns (nmT t n p) else ns
/-- what scanning may touch -/
def FrX (s s2 : aZ) : Prop := (∀ k, k ≠ 1 → k ≠ 3 → k ≠ 4 → k ≠ 5 → k ≠ 6 → k ≠ 7 → s2 k = s k) ∧ ∀ j, j ∉ [4, 6, 7, 8, 9, 10, 11] → zz s2 1 j = zz s 1 j
theorem FrX.of1 {js : List Nat} {s s2 : aZ} (h : Fr1 js s s2) (hj : ∀ j ∈ js, j ∈ [4, 6, 7, 8, 9, 10, 11]) : FrX s s2 := ⟨fun k h1 _ _ _ _ _ => h.1 k h1, fun j hn => h.2 j (fun q => hn (hj j q))⟩
theorem FrX.tr {s1 s2 s3 : aZ} (a : FrX s1 s2) (b : FrX s2 s3) : FrX s1 s3 := ⟨fun k h1 h2 h3 h4 h5 h6 => (b.1 k h1 h2 h3 h4 h5 h6).trans (a.1 k h1 h2 h3 h4 h5 h6), fun j hj => (b.2 j hj).trans (a.2 j hj)⟩
theorem XT.frX {t : Nat → Int} {n : Nat} {s s2 : aZ} (h : XT t n s) (f : FrX s s2) : XT t n s2 := ⟨(f.2 3 (by decide)).trans h.1, h.2.1, fun j hj => ⟨(zz_of (f.1 2 (by decide) (by decide) (by decide) (by decide) (by decide) (by decide)) j).trans (h.2.2 j hj).1, (h.2.2 j hj).2⟩⟩
theorem NT3.fr1 {js : List Nat} {ns : List (List Int)} {s s2 : aZ} (h : NT 3 5 6 7 4 10240 3000 ns s) (f : Fr1 js s s2) : NT 3 5 6 7 4 10240 3000 ns s2 := h.fr (zz_of (f.1 3 (by decide)) 4) (f.1 5 (by decide)) (f.1 6 (by decide)) (f.1 7 (by decide)) (f.1 4 (by decide))
/-- what a scan leaves -/
def SCP (t : Nat → Int) (n p : Nat) (ns : List (List Int)) (s s2 : aZ) : Prop := ((∀ k, k ≠ 1 → k ≠ 3 → k ≠ 4 → k ≠ 5 → k ≠ 6 → k ≠ 7 → s2 k = s k) ∧ ∀ j, j ∉ [6, 8, 9, 10, 11] → zz s2 1 j = zz s 1 j) ∧ TKP p (tkK t n p) (tkE t n p) (tkF t n p) s s2 ∧ NT 3 5 6 7 4 10240 3000 (tkNs t n p ns) s2 ∧ (tkF t n p = 0 → (tkK t n p = 3 → zz s2 1 9 = dgV t (n - p) p 0) ∧ (tkK t n p = 2 → zz s2 1 9 = ixn ns (nmT t n p)))
theorem z43_ne (c d e : Int) : z43 c d e ≠ 2 ∧ z43 c d e ≠ 3 := by constructor <;> (unfold z43; omega)
theorem z44_ne (c d : Int) : z44 c d ≠ 2 ∧ z44 c d ≠ 3 := by constructor <;> (unfold z44; omega)
theorem z45_ne (c : Int) : z45 c ≠ 2 ∧ z45 c ≠ 3 := by constructor <;> (unfold z45; omega)
theorem tkS_ne {t : Nat → Int} {n p : Nat} (h1 : ¬ z31 (t p) ≠ 0) (h2 : ¬ t p = 39) (h3 : ¬ z34 (t p) ≠ 0) : tkK t n p ≠ 2 ∧ tkK t n p ≠ 3 := by
  unfold tkK
  rw [if_neg h1, if_neg h2, if_neg h3]
  split
  · exact z43_ne _ _ _
  · split
    · exact z44_ne _ _
    · exact z45_ne _
theorem tkK2 {t : Nat → Int} {n p : Nat} (h1 : ¬ z31 (t p) ≠ 0) (h : t p = 39) : tkK t n p = 2 := by unfold tkK; rw [if_neg h1, if_pos h]
theorem x_scanTy {d : Nat} {B : aH} (hB : a_Can B) (hd : 3 ≤ d) {t : Nat → Int} {n : Nat} {s : aZ} (l : aZL) (hT : XT t n s) (ns : List (List Int)) (hN : NT 3 5 6 7 4 10240 3000 ns s) (hc1 : ns.length < 3000) (hc2 : tot ns + 24 ≤ 10240) (p : Nat) (hp : p < n) (h7 : zz s 1 7 = p) (h10 : zz s 1 10 = 0) (hz1 : ¬ z31 (t p) ≠ 0) (h39 : t p = 39) : a_W d 36 0 [.ref 1, .retAddr 0] [] (mkH B s l) (fun q => ∃ s2, q = (.inl none, mkH B s2 l) ∧ SCP t n p ns s s2) := by
  have hT' := hT
  obtain ⟨h1, h2, h3⟩ := hT
  have eK : tkK t n p = 2 := tkK2 hz1 h39
  have eE : tkE t n p = (if z31 (bt t n (p + 1)) ≠ 0 then wd t (n - (p + 1)) (p + 1) else p) := by unfold tkE; rw [if_neg hz1, if_pos h39]
  have eF : tkF t n p = (if z31 (bt t n (p + 1)) ≠ 0 then (if p + 1 + 24 < wd t (n - (p + 1)) (p + 1) then 8 else 0) else 1) := by unfold tkF; rw [if_neg hz1, if_pos h39]
  have q1 : zz s 1 7 + 1 = ((p + 1 : Nat) : Int) := by omega
  have scan1 : ¬ z31 (bt t n (p + 1)) ≠ 0 → ∃ s2, ((.inl none, (mkH B (zu (zu (zu s 1 10 1) 1 11 (zz s 1 7)) 1 6 0) l)) : aR) = (.inl none, mkH B s2 l) ∧ SCP t n p ns s s2 := by
    intro hz
    rw [if_neg hz] at eF
    have f : Fr1 [6, 8, 9, 10, 11] s (zu (zu (zu s 1 10 1) 1 11 (zz s 1 7)) 1 6 0) := fl_fr (Fr1.rf _ s) _ _ (by decide) (by decide) (by decide)
    refine ⟨_, rfl, ⟨fun k k1 _ _ _ _ _ => f.1 k k1, f.2⟩, ⟨fun h => absurd h (by rw [eF]; decide), fun _ => ?_⟩, ?_, fun h => absurd h (by rw [eF]; decide)⟩
    · rw [eF, ← h7]
      exact fl_bad _ _ _ (by decide) (inR_zz _ _ _)
    · unfold tkNs
      rw [if_neg (by rw [eF]; rintro ⟨-, q⟩; exact absurd q (by decide))]
      exact NT3.fr1 hN f
  refine w36_0 hB (by omega) s l ⟨⟨by omega, by omega⟩, fun g1 => ⟨fun g2 => absurd rfl g2, fun _ => ⟨fun g => absurd h10 g, fun _ => scan1 ?_⟩⟩, fun g1 => ⟨⟨by omega, by omega⟩, ?_⟩⟩
  · unfold bt
    rw [if_neg (by omega)]
    exact fun h => h rfl
  have hp1 : p + 1 < n := by omega
  obtain ⟨b1, b2⟩ := h3 (p + 1) hp1
  have ebt : bt t n (p + 1) = t (p + 1) := by unfold bt; rw [if_pos hp1]
  rw [q1, natc, b1, z31_sb b2]
  refine ⟨fun hz => ?_, fun hz => ⟨fun g => absurd h10 g, fun _ => scan1 (by rw [ebt]; exact fun q => q hz)⟩⟩
  rw [ebt, if_pos hz] at eE eF
  have hw := wd_ge t (n - (p + 1)) (p + 1)
  refine a_W.imp (x_word hB (by omega) l hT' (p + 1) (by omega)) ?_
  rintro _ rfl
  refine ⟨_, s, l, rfl, ⟨by omega, by omega⟩, fun hle => ?_, fun hlt => ⟨fun g => absurd h10 g, fun _ => ?_⟩⟩
  · have e0 : tkF t n p = 0 := by rw [eF, if_neg (by omega)]
    have f1 : Fr1 [6, 8, 9, 10, 11] s (zu (zu s 1 8 (wd t (n - (p + 1)) (p + 1) : Nat)) 1 6 2) := (Fr1.zu _ _ _ (by decide)).tr (Fr1.zu _ _ _ (by decide))
    have hg : Sg (zz (zu (zu s 1 8 (wd t (n - (p + 1)) (p + 1) : Nat)) 1 6 2) 2) (p + 1) (nmT t n p) := by
      intro j hj
      unfold nmT at hj ⊢
      rw [seg_len] at hj
      rw [seg_get _ _ _ _ hj, zz_of (f1.1 2 (by decide)), (h3 _ (by omega)).1]
      have := wd_chars t (n - (p + 1)) (p + 1) (p + 1 + j) (by omega) (by omega)
      unfold sb
      rw [if_pos (by omega)]
    have hch : ∀ c ∈ nmT t n p, -128 ≤ c ∧ c ≤ 127 := by
      intro c hc
      obtain ⟨j, hj, e⟩ := seg_mem hc
      have := wd_chars t (n - (p + 1)) (p + 1) (p + 1 + j) (by omega) (by omega)
      omega
    have hlen : (nmT t n p).length = wd t (n - (p + 1)) (p + 1) - (p + 1) := seg_len _ _ _
    have hNf := NT3.fr1 hN f1
    have htot := NTs.tot hNf.1
    have h8e : zz (zu (zu s 1 8 (wd t (n - (p + 1)) (p + 1) : Nat)) 1 6 2) 1 8 = (wd t (n - (p + 1)) (p + 1) : Nat) := by
      rw [zz_ne _ _ _ _ _ _ (by decide), zz_same _ _ _ ⟨by omega, by omega⟩]
    refine x_foa (d := d - 1) (Q := fun q => ∃ s2, q = (.inl none, mkH B s2 l) ∧ SCP t n p ns s s2) hB (by omega) _ l ns hNf (p + 1) (wd t (n - (p + 1)) (p + 1)) (nmT t n p) (by rw [hlen]; omega) (by omega) hg hch hc1 (by rw [htot, hlen]; omega) h8e ?_
    intro s2 k1 k3 k9
    refine ⟨_, rfl, ⟨fun k g1 g3 g4 g5 g6 g7 => ?_, fun j hj => ?_⟩, ⟨fun _ => ⟨?_, ?_, ?_, ?_⟩, fun h => absurd e0 h⟩, ?_, fun _ => ⟨fun h => absurd h (by rw [eK]; decide), fun _ => ?_⟩⟩
    · rw [zu_ne _ _ _ _ _ g1, k3 k g1 g3 g5 g6 g7 g4]
      exact f1.1 k g1
    · rw [zz_ne _ _ _ _ _ _ (fun q => hj (by rw [q.2]; decide)), k9 j (fun q => hj (by rw [q]; decide))]
      exact f1.2 j hj
    · rw [zz_ne _ _ _ _ _ _ (by decide), k9 _ (by decide), zz_same _ _ _ (by decide), eK]
    · rw [zz_ne _ _ _ _ _ _ (by decide), k9 _ (by decide), zz_ne _ _ _ _ _ _ (by decide), zz_same _ _ _ ⟨by omega, by omega⟩, eE]
    · rw [zz_ne _ _ _ _ _ _ (by decide), k9 _ (by decide), zz_ne _ _ _ _ _ _ (by decide), zz_ne _ _ _ _ _ _ (by decide)]
      exact h10
    · rw [zz_ne _ _ _ _ _ _ (by decide), k9 _ (by decide), zz_ne _ _ _ _ _ _ (by decide), zz_ne _ _ _ _ _ _ (by decide)]
    · unfold tkNs
      rw [if_pos ⟨eK, e0⟩]
      exact NT3.fr1 k1 (Fr1.zu (js := [9]) _ _ _ (by decide))
    · refine zz_same _ _ _ ?_
      rcases fd_cases ns (nmT t n p) ns.length with ⟨h, -⟩ | ⟨i, hi, h, -⟩
      · rw [h, if_pos (by decide)]
        exact ⟨by omega, by omega⟩
      · rw [h, if_neg (by omega)]
        exact ⟨by omega, by omega⟩
  · have e8 : tkF t n p = 8 := by rw [eF, if_pos (by omega)]
    have f1 : Fr1 [6, 8, 9, 10, 11] s (zu (zu s 1 8 (wd t (n - (p + 1)) (p + 1) : Nat)) 1 6 2) := (Fr1.zu _ _ _ (by decide)).tr (Fr1.zu _ _ _ (by decide))
    have f2 := fl_fr f1 8 (zz s 1 7) (by decide) (by decide) (by decide)
    refine ⟨_, rfl, ⟨fun k g1 _ _ _ _ _ => f2.1 k g1, f2.2⟩, ⟨fun h => absurd h (by rw [e8]; decide), fun _ => ?_⟩, ?_, fun h => absurd h (by rw [e8]; decide)⟩
    · rw [e8, ← h7]
      exact fl_bad _ _ _ (by decide) (inR_zz _ _ _)
    · unfold tkNs
      rw [if_neg (by rw [e8]; rintro ⟨-, q⟩; exact absurd q (by decide))]
      exact NT3.fr1 hN f2
theorem SCP.of {t : Nat → Int} {n p : Nat} {ns : List (List Int)} {s s2 : aZ} (hN : NT 3 5 6 7 4 10240 3000 ns s) (f : Fr1 [6, 8, 9, 10, 11] s s2) (h : TKP p (tkK t n p) (tkE t n p) (tkF t n p) s s2) (h2 : tkK t n p ≠ 2) (h3 : tkK t n p = 3 → zz s2 1 9 = dgV t (n - p) p 0) : SCP t n p ns s s2 := by
  refine ⟨⟨fun k k1 _ _ _ _ _ => f.1 k k1, f.2⟩, h, ?_, fun _ => ⟨h3, fun q => absurd q h2⟩⟩
  unfold tkNs
  rw [if_neg (fun q => h2 q.1)]
  exact NT3.fr1 hN f
/-- the reader takes a token whose first byte is x1 -/
def W30 (d : Nat) (B : aH) (x1 : Int) (s : aZ) (l : aZL) (Q : aR → Prop) : Prop := (((z31 x1) = 0 → ((x1 ≠ 39 → (((z34 x1) = 0 → a_W (d - 1) 42 0 [.ref 1, iv x1, .retAddr 0] [] (mkH B s l) (fun r => ∃ (s2 : Nat → Nat → Int32) (l2 : Nat → Nat → Int64), r = (.inl none, mkH B s2 l2) ∧ Q (.inl none, (mkH B s2 l2)))) ∧ ((z34 x1) ≠ 0 → a_W (d - 1) 41 0 [.ref 1] [] (mkH B s l) (fun r => ∃ (s2 : Nat → Nat → Int32) (l2 : Nat → Nat → Int64), r = (.inl none, mkH B s2 l2) ∧ Q (.inl none, (mkH B s2 l2)))))) ∧ (x1 = 39 → a_W (d - 1) 36 0 [.ref 1, .retAddr 0] [] (mkH B s l) (fun r => ∃ (s2 : Nat → Nat → Int32) (l2 : Nat → Nat → Int64), r = (.inl none, mkH B s2 l2) ∧ Q (.inl none, (mkH B s2 l2)))))) ∧ ((z31 x1) ≠ 0 → a_W (d - 1) 32 0 [.ref 1] [] (mkH B s l) (fun r => ∃ (s2 : Nat → Nat → Int32) (l2 : Nat → Nat → Int64), r = (.inl none, mkH B s2 l2) ∧ Q (.inl none, (mkH B s2 l2)))))
theorem W30.imp {d : Nat} {B : aH} {x1 : Int} {s : aZ} {l : aZL} {P Q : aR → Prop} (h : W30 d B x1 s l P) (g : ∀ q, P q → Q q) : W30 d B x1 s l Q := by
  have k : ∀ r : aR, (∃ (s2 : Nat → Nat → Int32) (l2 : Nat → Nat → Int64), r = (.inl none, mkH B s2 l2) ∧ P (.inl none, (mkH B s2 l2))) → (∃ (s2 : Nat → Nat → Int32) (l2 : Nat → Nat → Int64), r = (.inl none, mkH B s2 l2) ∧ Q (.inl none, (mkH B s2 l2))) := by
    rintro r ⟨s2, l2, e, h2⟩
    exact ⟨s2, l2, e, g _ h2⟩
  exact ⟨fun a => ⟨fun b => ⟨fun c => a_W.imp (((h.1 a).1 b).1 c) k, fun c => a_W.imp (((h.1 a).1 b).2 c) k⟩, fun b => a_W.imp ((h.1 a).2 b) k⟩, fun a => a_W.imp (h.2 a) k⟩
theorem x_scan {d : Nat} {B : aH} (hB : a_Can B) (hd : 4 ≤ d) {t : Nat → Int} {n : Nat} {s : aZ} (l : aZL) (hT : XT t n s) (ns : List (List Int)) (hN : NT 3 5 6 7 4 10240 3000 ns s) (hc1 : ns.length < 3000) (hc2 : tot ns + 24 ≤ 10240) (p : Nat) (hp : p < n) (h7 : zz s 1 7 = p) (h8 : zz s 1 8 = p) (h10 : zz s 1 10 = 0) : W30 d B (sb (t p)) s l (fun q => ∃ s2, q = (.inl none, mkH B s2 l) ∧ SCP t n p ns s s2) := by
  obtain ⟨b1, b2⟩ := hT.2.2 p hp
  unfold W30
  rw [z31_sb b2, z34_sb b2, sb_c b2 39 (by decide)]
  refine ⟨fun g1 => ⟨fun g2 => ⟨fun g3 => ?_, fun g3 => ?_⟩, fun g2 => ?_⟩, fun g1 => ?_⟩
  · have k39 : ¬ t p = 39 := fun e => g2 ((sb_c b2 39 (by decide)).mpr e)
    refine a_W.imp (x_scanSign hB (by omega) l hT p hp h7 h10 (fun q => q g1) k39 (fun q => q g3)) ?_
    rintro _ ⟨s2, rfl, f, k⟩
    have hne := tkS_ne (n := n) (fun q => q g1) k39 (fun q => q g3)
    exact ⟨s2, l, rfl, s2, rfl, SCP.of hN f k hne.1 (fun e => absurd e hne.2)⟩
  · refine a_W.imp (x_scanNum hB (by omega) l hT p hp h7 h8 h10 (fun q => q g1) g3) ?_
    rintro _ ⟨s2, rfl, f, k, kv⟩
    refine ⟨s2, l, rfl, s2, rfl, SCP.of hN f k ?_ (fun _ => kv)⟩
    have k39 : ¬ t p = 39 := fun e => by rw [z34_iff] at g3; omega
    unfold tkK
    rw [if_neg (fun q => q g1), if_neg k39, if_pos g3]
    decide
  · refine a_W.imp (x_scanTy hB (by omega) l hT ns hN hc1 hc2 p hp h7 h10 (fun q => q g1) g2) ?_
    rintro _ ⟨s2, rfl, k⟩
    exact ⟨s2, l, rfl, s2, rfl, k⟩
  · refine a_W.imp (x_scanName hB (by omega) l hT p hp h7 h10 g1) ?_
    rintro _ ⟨s2, rfl, f, k⟩
    refine ⟨s2, l, rfl, s2, rfl, SCP.of hN f k ?_ ?_⟩
    · unfold tkK
      rw [if_pos g1]
      split <;> decide
    · unfold tkK
      rw [if_pos g1]
      intro e
      exfalso
      split at e <;> exact absurd e (by decide)
