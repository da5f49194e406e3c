/-! THE REFERENCE'S SCAN -/
/-- the reference's table of type variables -/
def MV (vs : List (List Int)) (s : aZ) (l : aZL) : Prop := zz s 56 5 = vs.length ∧ vs.length ≤ 18000 ∧ (∀ i j, i < j → j < vs.length → vs.getD i [] ≠ vs.getD j []) ∧ ∀ i, i < vs.length → VN (vs.getD i []) ∧ LN l 63 i (vs.getD i [])
theorem MV.fr {vs : List (List Int)} {s s2 : aZ} {l l2 : aZL} (h : MV vs s l) (h5 : zz s2 56 5 = zz s 56 5) (hl : l2 63 = l 63) : MV vs s2 l2 := ⟨h5.trans h.1, h.2.1, h.2.2.1, fun i hi => ⟨(h.2.2.2 i hi).1, fun q hq => by rw [hl]; exact (h.2.2.2 i hi).2 q hq⟩⟩
def MSC (t : Nat → Int) (n p m : Nat) (vs : List (List Int)) (s : aZ) (l : aZL) (s2 : aZ) (l2 : aZL) : Prop := (∀ k, k ≠ 56 → k ≠ 71 → k ≠ 73 → s2 k = s k) ∧ (∀ j, j ∉ [5, 22, 23, 25] → zz s2 56 j = zz s 56 j) ∧ (∀ j, j ≠ m → zz s2 71 j = zz s 71 j ∧ zz s2 73 j = zz s 73 j) ∧ MLF m l l2 ∧ MV (tkNs t n p vs) s2 l2 ∧ (tkF t n p = 0 → zz s2 71 m = kM (tkK t n p) ∧ zz s2 56 25 = tkE t n p ∧ zz s2 56 22 = 0 ∧ zz s2 56 23 = zz s 56 23 ∧ (tkK t n p = 3 → zz s2 73 m = dgV t (n - p) p 0) ∧ (tkK t n p = 2 → zz s2 73 m = ixn vs (nmT t n p)) ∧ (z31 (t p) ≠ 0 → LN l2 74 m (seg t p (tkE t n p - p)))) ∧ (tkF t n p ≠ 0 → zz s2 56 22 = tkF t n p ∧ zz s2 56 23 = p)
theorem MSC.of {t : Nat → Int} {n p m : Nat} {vs : List (List Int)} {s s2 : aZ} {l l2 : aZL} (hV : MV vs s l) (h : MSP t n p m s s2) (h2 : tkK t n p ≠ 2) (hL : MLF m l l2) (h63 : l2 63 = l 63) (hw : tkF t n p = 0 → z31 (t p) ≠ 0 → LN l2 74 m (seg t p (tkE t n p - p))) : MSC t n p m vs s l s2 l2 := by
  obtain ⟨a1, a2, a3, a4, a5⟩ := h
  refine ⟨a1, fun j hj => a2 j (fun q => hj ?_), a3, hL, ?_, fun h0 => ?_, a5⟩
  · simp only [List.mem_cons, List.not_mem_nil, or_false] at q ⊢
    omega
  · unfold tkNs
    rw [if_neg (fun q => h2 q.1)]
    exact hV.fr (a2 5 (by decide)) h63
  · obtain ⟨b1, b2, b3, b4, b5⟩ := a4 h0
    exact ⟨b1, b2, b3, b4, b5, fun q => absurd q h2, hw h0⟩
theorem nmT_VN {t : Nat → Int} {n p : Nat} (hF : tkF t n p = 0) (hz1 : ¬ z31 (t p) ≠ 0) (h39 : t p = 39) : VN (nmT t n p) ∧ (nmT t n p).length = wd t (n - (p + 1)) (p + 1) - (p + 1) := by
  have hl : (nmT t n p).length = wd t (n - (p + 1)) (p + 1) - (p + 1) := seg_len _ _ _
  refine ⟨⟨?_, ?_⟩, hl⟩
  · unfold tkF at hF
    rw [if_neg hz1, if_pos h39] at hF
    split at hF
    · split at hF
      · exact absurd hF (by decide)
      · rw [hl]
        omega
    · exact absurd hF (by decide)
  · intro c hc
    obtain ⟨j, hj, e⟩ := seg_mem hc
    have := wd_chars t (n - (p + 1)) (p + 1) (p + 1 + j) (by omega) (by omega)
    omega
theorem m_scanVar {d : Nat} {B : aH} (hB : a_Can B) (hd : 2 ≤ d) {t : Nat → Int} {n : Nat} {s : aZ} (l : aZL) (hT : MT t n s) (vs : List (List Int)) (hV : MV vs s l) (hcap : vs.length < 17000) (p m : Nat) (hp : p < n) (h25 : zz s 56 25 = p) (h26 : zz s 56 26 = m) (hm : m < 6002) (h22 : zz s 56 22 = 0) (hz1 : ¬ z31 (t p) ≠ 0) (h39 : t p = 39) (hz : z31 (bt t n (p + 1)) ≠ 0) : a_W d 154 0 [.ref 56, iv ((p + 1 : Nat) : Int), .retAddr 0, .retAddr 0, .retAddr 0, .retAddr 0] [] (mkH B s l) (fun q => ∃ s2 l2, q = (.inl none, mkH B s2 l2) ∧ MSC t n p m vs s l s2 l2) := by
  have h8 := hT.2.1
  have hp1 : p + 1 < n := by
    apply Decidable.byContradiction
    intro hn
    unfold bt at hz
    rw [if_neg hn] at hz
    exact hz rfl
  have hw := wd_ge t (n - (p + 1)) (p + 1)
  have eK : tkK t n p = 2 := tkK2 hz1 h39
  have eE : tkE t n p = wd t (n - (p + 1)) (p + 1) := by unfold tkE; rw [if_neg hz1, if_pos h39, if_pos hz]
  have eF : tkF t n p = (if p + 1 + 24 < wd t (n - (p + 1)) (p + 1) then 8 else 0) := by unfold tkF; rw [if_neg hz1, if_pos h39, if_pos hz]
  refine m_w_zero hB s l (p + 1) m h26 hm (fun i => t (p + 1 + i)) _ (fun l1 hl1 => ?_)
  refine m_w_loop hB (by omega) hT h22 (p + 1) m h26 hm l (3 : Nat) _ (n - (p + 1)) 0 l1 (by omega) hl1 (fun l2 hle hL => ?_) (fun l2 hlt hL => ?_)
  · rw [Nat.add_zero] at hle hL ⊢
    have eF0 : tkF t n p = 0 := by rw [eF, if_neg (by omega)]
    obtain ⟨hvn, hvl⟩ := nmT_VN eF0 hz1 h39
    have hln : LN l2 74 m (nmT t n p) := by
      have := hL.ln
      rw [show min (wd t (n - (p + 1)) (p + 1) - (p + 1)) 24 = wd t (n - (p + 1)) (p + 1) - (p + 1) by omega] at this
      exact this
    have hV2 : MV vs s l2 := hV.fr rfl (hL.2.2 63 (by decide))
    obtain ⟨v1, v2, v3, v4⟩ := hV2
    have hff := ffd_fd v3 (nmT t n p)
    have em : (zz s 56 26).toNat = m := by omega
    have f56 : ∀ j, j ≠ 25 → zz (zu (zu s 71 m 2) 56 25 ((p : Int) + (((wd t (n - (p + 1)) (p + 1) : Nat) : Int) - (p : Int)))) 56 j = zz s 56 j := fun j hj => by rw [zz_ne _ _ _ _ _ _ (fun q => hj q.2), zz_ne _ _ _ _ _ _ (by omega)]
    refine w154_113 hB (by omega) _ _ _ s l2 ⟨⟨by omega, by omega⟩, fun _ => ?_, fun h => absurd h (by omega)⟩
    refine w154_164 hB (by omega) _ _ 0 s l2 ⟨by decide, fun _ => ⟨⟨by omega, by omega⟩, fun _ => ?_, fun h => absurd h (by omega)⟩, fun h => absurd rfl h⟩
    rw [em, h25, h26, v1]
    refine a_W.imp (m_find63 hB (by omega) _ l2 vs (by omega) v4 m hm (nmT t n p) hvn hln) ?_
    rintro _ rfl
    rw [hff]
    have hT71 : ∀ c j : Nat, c ≠ 71 → True := fun _ _ _ => trivial
    rcases fd_cases vs (nmT t n p) vs.length with ⟨hfd, hno⟩ | ⟨i, hi, hfd, hyes⟩
    · refine ⟨_, _, l2, rfl, by rw [hfd]; decide, fun h => absurd hfd h, fun _ => ?_⟩
      rw [f56 5 (by decide), f56 26 (by decide), v1, h26]
      refine a_W.imp (m_write63 hB _ l2 vs.length m (by omega) hm) ?_
      rintro _ ⟨l3, rfl, g1, g2, g3⟩
      refine ⟨_, l3, rfl, ?_⟩
      rw [f56 5 (by decide), v1]
      have k26 : zz (zu (zu (zu s 71 m 2) 56 25 ((p : Int) + (((wd t (n - (p + 1)) (p + 1) : Nat) : Int) - (p : Int)))) 56 5 ((vs.length : Int) + 1)) 56 26 = m := by rw [zz_ne _ _ _ _ _ _ (by decide), f56 26 (by decide)]; exact h26
      refine w154_268 hB _ _ _ _ _ _ _ ⟨⟨by omega, by omega⟩, ?_⟩
      rw [k26, natc]
      have exn : tkNs t n p vs = vs ++ [nmT t n p] := by
        unfold tkNs adn
        rw [if_pos ⟨eK, eF0⟩, if_pos (by rw [hfd]; decide)]
      have ixe : ixn vs (nmT t n p) = vs.length := by unfold ixn; rw [if_pos (by rw [hfd]; decide)]
      refine ⟨_, _, rfl, fun k q1 q2 q3 => ?_, fun j hj => ?_, fun j hj => ⟨?_, ?_⟩, ⟨fun r hr => ?_, fun k q1 q2 => ?_⟩, ?_, fun _ => ⟨?_, ?_, ?_, ?_, fun q => absurd q (by rw [eK]; decide), fun _ => ?_, fun q => absurd q hz1⟩, fun h => absurd eF0 h⟩
      · rw [zu_ne _ _ _ _ _ q3, zu_ne _ _ _ _ _ q1, zu_ne _ _ _ _ _ q1, zu_ne _ _ _ _ _ q2]
      · rw [zz_ne _ _ _ _ _ _ (by omega), zz_ne _ _ _ _ _ _ (fun q => hj (by rw [q.2]; decide)), f56 j (fun q => hj (by rw [q]; decide))]
      · rw [zz_ne _ _ _ _ _ _ (by omega), zz_ne _ _ _ _ _ _ (by omega), zz_ne _ _ _ _ _ _ (by omega), zz_ne _ _ _ _ _ _ (by omega)]
      · rw [zz_ne _ _ _ _ _ _ (by omega), zz_ne _ _ _ _ _ _ (by omega), zz_ne _ _ _ _ _ _ (by omega), zz_ne _ _ _ _ _ _ (by omega)]
      · rw [g3 74 (by decide)]; exact hL.2.1 r hr
      · rw [g3 k q2]; exact hL.2.2 k q1
      · rw [exn]
        refine ⟨?_, ?_, fun i j hij hj => ?_, fun i hi => ?_⟩
        · rw [zz_ne _ _ _ _ _ _ (by omega), zz_same _ _ _ ⟨by omega, by omega⟩, List.length_append]
          simp
        · rw [List.length_append]
          simp
          omega
        · rw [List.length_append] at hj
          simp at hj
          by_cases e : j = vs.length
          · rw [e, getD_last, getD_app _ _ _ _ (by omega)]
            exact hno i (by omega)
          · rw [getD_app _ _ _ _ (by omega), getD_app _ _ _ _ (by omega)]
            exact v3 i j hij (by omega)
        · rw [List.length_append] at hi
          simp at hi
          by_cases e : i = vs.length
          · rw [e, getD_last]
            refine ⟨hvn, fun q hq => ?_⟩
            rw [g1 q hq]
            exact hln q hq
          · rw [getD_app _ _ _ _ (by omega)]
            refine ⟨(v4 i (by omega)).1, fun q hq => ?_⟩
            rw [g2 _ (by omega)]
            exact (v4 i (by omega)).2 q hq
      · rw [zz_ne _ _ _ _ _ _ (by omega), zz_ne _ _ _ _ _ _ (by omega), zz_ne _ _ _ _ _ _ (by omega), zz_same _ _ _ (by decide), eK]; rfl
      · rw [zz_ne _ _ _ _ _ _ (by omega), zz_ne _ _ _ _ _ _ (by decide), zz_same _ _ _ ⟨by omega, by omega⟩, eE]; omega
      · rw [zz_ne _ _ _ _ _ _ (by omega), zz_ne _ _ _ _ _ _ (by decide), f56 22 (by decide)]; exact h22
      · rw [zz_ne _ _ _ _ _ _ (by omega), zz_ne _ _ _ _ _ _ (by decide), f56 23 (by decide)]
      · rw [zz_same _ _ _ ⟨by omega, by omega⟩, ixe]
    · refine ⟨_, _, l2, rfl, by rw [hfd]; exact ⟨by omega, by omega⟩, fun _ => ?_, fun h => absurd h (by rw [hfd]; omega)⟩
      have k26 : zz (zu (zu s 71 m 2) 56 25 ((p : Int) + (((wd t (n - (p + 1)) (p + 1) : Nat) : Int) - (p : Int)))) 56 26 = m := by rw [f56 26 (by decide)]; exact h26
      refine w154_268 hB _ _ _ _ _ _ _ ⟨⟨by omega, by omega⟩, ?_⟩
      rw [k26, natc]
      have exn : tkNs t n p vs = vs := by
        unfold tkNs adn
        rw [if_pos ⟨eK, eF0⟩, if_neg (by rw [hfd]; omega)]
      have ixe : ixn vs (nmT t n p) = fd vs (nmT t n p) vs.length := by unfold ixn; rw [if_neg (by rw [hfd]; omega)]
      refine ⟨_, _, rfl, fun k q1 q2 q3 => ?_, fun j hj => ?_, fun j hj => ⟨?_, ?_⟩, ⟨hL.2.1, fun k q1 q2 => hL.2.2 k q1⟩, ?_, fun _ => ⟨?_, ?_, ?_, ?_, fun q => absurd q (by rw [eK]; decide), fun _ => ?_, fun q => absurd q hz1⟩, fun h => absurd eF0 h⟩
      · rw [zu_ne _ _ _ _ _ q3, zu_ne _ _ _ _ _ q1, zu_ne _ _ _ _ _ q2]
      · rw [zz_ne _ _ _ _ _ _ (by omega), f56 j (fun q => hj (by rw [q]; decide))]
      · rw [zz_ne _ _ _ _ _ _ (by omega), zz_ne _ _ _ _ _ _ (by omega), zz_ne _ _ _ _ _ _ (by omega)]
      · rw [zz_ne _ _ _ _ _ _ (by omega), zz_ne _ _ _ _ _ _ (by omega), zz_ne _ _ _ _ _ _ (by omega)]
      · rw [exn]
        exact hV.fr (by rw [zz_ne _ _ _ _ _ _ (by omega), f56 5 (by decide)]) (hL.2.2 63 (by decide))
      · rw [zz_ne _ _ _ _ _ _ (by omega), zz_ne _ _ _ _ _ _ (by omega), zz_same _ _ _ (by decide), eK]; rfl
      · rw [zz_ne _ _ _ _ _ _ (by omega), zz_same _ _ _ ⟨by omega, by omega⟩, eE]; omega
      · rw [zz_ne _ _ _ _ _ _ (by omega), f56 22 (by decide)]; exact h22
      · rw [zz_ne _ _ _ _ _ _ (by omega), f56 23 (by decide)]
      · rw [zz_same _ _ _ (by rw [hfd]; exact ⟨by omega, by omega⟩), ixe]
  · rw [Nat.add_zero] at hlt hL ⊢
    have eF8 : tkF t n p = 8 := by rw [eF, if_pos (by exact hlt)]
    have k25 : zz (zu (zu s 56 22 8) 56 23 (zz s 56 25)) 56 25 = p := by rw [zz_ne _ _ _ _ _ _ (by decide), zz_ne _ _ _ _ _ _ (by decide)]; exact h25
    have k26 : zz (zu (zu s 56 22 8) 56 23 (zz s 56 25)) 56 26 = m := by rw [zz_ne _ _ _ _ _ _ (by decide), zz_ne _ _ _ _ _ _ (by decide)]; exact h26
    have k22 : zz (zu (zu s 56 22 8) 56 23 (zz s 56 25)) 56 22 = 8 := by rw [zz_ne _ _ _ _ _ _ (by decide)]; exact zz_same _ _ _ (by decide)
    refine w154_113 hB (by omega) _ _ _ _ l2 ⟨⟨by omega, by omega⟩, fun _ => ?_, fun h => absurd h (by omega)⟩
    refine w154_164 hB (by omega) _ _ 0 _ l2 ⟨by decide, fun _ => ⟨⟨by omega, by omega⟩, fun h => absurd h (by omega), fun _ => w154_207 hB _ _ _ _ _ _ ?_⟩, fun h => absurd rfl h⟩
    rw [k26, natc, k25, h25]
    have exn : tkNs t n p vs = vs := by
      unfold tkNs
      rw [if_neg (fun q => absurd q.2 (by rw [eF8]; decide))]
    refine ⟨_, _, rfl, fun k q1 q2 q3 => ?_, fun j hj => ?_, fun j hj => ⟨?_, ?_⟩, ⟨hL.2.1, fun k q1 q2 => hL.2.2 k q1⟩, ?_, fun h => absurd h (by rw [eF8]; decide), fun _ => ⟨?_, ?_⟩⟩
    · rw [zu_ne _ _ _ _ _ q1, zu_ne _ _ _ _ _ q2, zu_ne _ _ _ _ _ q1, zu_ne _ _ _ _ _ q1]
    · rw [zz_ne _ _ _ _ _ _ (fun q => hj (by rw [q.2]; decide)), zz_ne _ _ _ _ _ _ (by omega), zz_ne _ _ _ _ _ _ (fun q => hj (by rw [q.2]; decide)), zz_ne _ _ _ _ _ _ (fun q => hj (by rw [q.2]; decide))]
    · rw [zz_ne _ _ _ _ _ _ (by omega), zz_ne _ _ _ _ _ _ (by omega), zz_ne _ _ _ _ _ _ (by omega), zz_ne _ _ _ _ _ _ (by omega)]
    · rw [zz_ne _ _ _ _ _ _ (by omega), zz_ne _ _ _ _ _ _ (by omega), zz_ne _ _ _ _ _ _ (by omega), zz_ne _ _ _ _ _ _ (by omega)]
    · rw [exn]
      exact hV.fr (by rw [zz_ne _ _ _ _ _ _ (by decide), zz_ne _ _ _ _ _ _ (by omega), zz_ne _ _ _ _ _ _ (by decide), zz_ne _ _ _ _ _ _ (by decide)]) (hL.2.2 63 (by decide))
    · rw [zz_ne _ _ _ _ _ _ (by decide), zz_ne _ _ _ _ _ _ (by omega), zz_ne _ _ _ _ _ _ (by decide), zz_same _ _ _ (by decide), eF8]
    · rw [zz_ne _ _ _ _ _ _ (by decide), zz_ne _ _ _ _ _ _ (by omega), zz_same _ _ _ ⟨by omega, by omega⟩]
