/-! WHAT WAITS TO BE JOINED, as pairs -/
theorem cmp_rt {P : Nat} {A : aPl} {rt u : Nat → Nat} (hU : Uf P A rt u) {c : Nat → Nat} (hc : ∀ k, k < P → c k = c (A.1 k)) : ∀ k, k < P → c k = c (rt k) := by
  have key : ∀ m k, u k ≤ m → k < P → c k = c (rt k) := by
    intro m
    induction m with
    | zero =>
      intro k hk hP
      obtain ⟨-, -, -, -, g5, g6, -⟩ := hU k hP
      have hr : A.1 k = k := Decidable.byContradiction (fun e => by have := g6 e; omega)
      rw [(g5 hr).1]
    | succ m ih =>
      intro k hk hP
      obtain ⟨g1, -, -, g4, g5, g6, -⟩ := hU k hP
      by_cases e : A.1 k = k
      · rw [(g5 e).1]
      · have := g6 e
        rw [hc k hP, ih (A.1 k) (by omega) g1, g4]
  exact fun k hk => key (u k) k (Nat.le_refl _) hk
/-- the pool is closed but for these pairs -/
def PCp (un : Int) (P : Nat) (A : aPl) (rt : Nat → Nat) (W : List (Int × Int)) : Prop := (∀ k, k < P → A.2.1 k ≠ un → A.2.1 (rt k) = A.2.1 k) ∧ ∀ c : Nat → Nat, (∀ k, k < P → c k = c (A.1 k)) → (∀ q ∈ W, prt c q.1 = prt c q.2) → ∀ k, k < P → A.2.1 k ≠ un → prt c (A.2.2.1 k) = prt c (A.2.2.1 (rt k)) ∧ prt c (A.2.2.2 k) = prt c (A.2.2.2 (rt k))
/-- a valuation that makes them equal -/
def Vlp (un : Int) (P : Nat) (A : aPl) (W : List (Int × Int)) (v : Nat → aT) : Prop := Vl un P A v ∧ ∀ q ∈ W, ptT v q.1 = ptT v q.2
section
variable {un : Int} {P : Nat} {A : aPl} {rt u : Nat → Nat}
theorem PCp.cl (h : PCp un P A rt []) (hU : Uf P A rt u) : ClP un P A rt := fun k hk hc => ⟨h.1 k hk hc, h.2 rt (fun k hk => (hU k hk).2.2.2.1.symm) (fun q hq => absurd hq List.not_mem_nil) k hk hc⟩
theorem ClP.pcp (h : ClP un P A rt) (hU : Uf P A rt u) (hR : RgP P A) (W : List (Int × Int)) : PCp un P A rt W := by
  refine ⟨fun k hk hc => (h k hk hc).1, fun c hc _ k hk hn => ?_⟩
  have hcr := cmp_rt hU hc
  obtain ⟨-, g2, g3⟩ := h k hk hn
  have hr := (hU k hk).2.1
  have e : ∀ x y : Int, -1 ≤ x → x < P → -1 ≤ y → y < P → prt rt x = prt rt y → prt c x = prt c y := fun x y a b d e f => by
    unfold prt at f ⊢
    by_cases hx : x < 0
    · by_cases hy : y < 0
      · rw [if_pos hx, if_pos hy]
      · rw [if_pos hx, if_neg hy] at f; omega
    · by_cases hy : y < 0
      · rw [if_neg hx, if_pos hy] at f; omega
      · rw [if_neg hx, if_neg hy] at f ⊢
        rw [hcr _ (show x.toNat < P by omega), hcr _ (show y.toNat < P by omega)]
        have : rt x.toNat = rt y.toNat := by omega
        rw [this]
  obtain ⟨r1, r2, -⟩ := hR k hk
  obtain ⟨t1, t2, -⟩ := hR _ hr
  exact ⟨e _ _ r1.1 r1.2 t1.1 t1.2 g2, e _ _ r2.1 r2.2 t2.1 t2.2 g3⟩
/-- one pair is one already -/
theorem PCp.drop {x y : Nat} {W : List (Int × Int)} (h : PCp un P A rt (((x : Int), (y : Int)) :: W)) (hU : Uf P A rt u) (hx : x < P) (hy : y < P) (e : rt x = rt y) : PCp un P A rt W := by
  refine ⟨h.1, fun c hc hW k hk hn => h.2 c hc (fun q hq => ?_) k hk hn⟩
  rcases List.mem_cons.mp hq with rfl | hq
  · have hcr := cmp_rt hU hc
    show prt c (x : Int) = prt c (y : Int)
    unfold prt
    rw [if_neg (by omega), if_neg (by omega), natc, natc, hcr x hx, hcr y hy, e]
  · exact hW q hq
theorem Vlp.drop {x y : Nat} {W : List (Int × Int)} (hU : Uf P A rt u) (hx : x < P) (hy : y < P) (e : rt x = rt y) (v : Nat → aT) : Vlp un P A (((x : Int), (y : Int)) :: W) v ↔ Vlp un P A W v := by
  refine ⟨fun h => ⟨h.1, fun q hq => h.2 q (List.mem_cons_of_mem _ hq)⟩, fun h => ⟨h.1, fun q hq => ?_⟩⟩
  rcases List.mem_cons.mp hq with rfl | hq
  · show ptT v (x : Int) = ptT v (y : Int)
    rw [ptT_p _ _ (by omega), ptT_p _ _ (by omega), natc, natc, h.1.root hU x hx, h.1.root hU y hy, e]
  · exact h.2 q hq
/-- an unknown type is linked to another -/
theorem PCp.linkU {x y a b : Nat} {W : List (Int × Int)} (h : PCp un P A rt (((x : Int), (y : Int)) :: W)) (hU : Uf P A rt u) (hx : x < P) (hy : y < P) (hab : (rt x = a ∧ rt y = b) ∨ (rt x = b ∧ rt y = a)) (ha : a < P) (ra : A.1 a = a) (ca : A.2.1 a = un) : PCp un P (lnP A a b) (rtL rt a b) W := by
  have hrt : ∀ k, k < P → A.2.1 k ≠ un → rtL rt a b k = rt k := fun k hk hn => if_neg (fun e => hn (by rw [← h.1 k hk hn, e]; exact ca))
  refine ⟨fun k hk hn => ?_, fun c hc hW k hk hn => ?_⟩
  · show A.2.1 (rtL rt a b k) = A.2.1 k
    rw [hrt k hk hn]
    exact h.1 k hk hn
  · show prt c (A.2.2.1 k) = prt c (A.2.2.1 (rtL rt a b k)) ∧ prt c (A.2.2.2 k) = prt c (A.2.2.2 (rtL rt a b k))
    rw [hrt k hk hn]
    have hcA : ∀ k, k < P → c k = c (A.1 k) := fun k hk => by
      by_cases e : k = a
      · rw [e, ra]
      · have := hc k hk
        rw [show (lnP A a b).1 k = A.1 k from if_neg e] at this
        exact this
    have eab : c a = c b := by
      have := hc a ha
      rw [show (lnP A a b).1 a = b from if_pos rfl] at this
      exact this
    refine h.2 c hcA (fun q hq => ?_) k hk hn
    rcases List.mem_cons.mp hq with rfl | hq
    · have hcr := cmp_rt hU hcA
      show prt c (x : Int) = prt c (y : Int)
      unfold prt
      rw [if_neg (by omega), if_neg (by omega), natc, natc, hcr x hx, hcr y hy]
      rcases hab with ⟨e1, e2⟩ | ⟨e1, e2⟩
      · rw [e1, e2, eab]
      · rw [e1, e2, eab]
    · exact hW q hq
theorem Vlp.linkU {x y a b : Nat} {W : List (Int × Int)} (hU : Uf P A rt u) (hx : x < P) (hy : y < P) (hab : (rt x = a ∧ rt y = b) ∨ (rt x = b ∧ rt y = a)) (ha : a < P) (ra : A.1 a = a) (v : Nat → aT) : Vlp un P (lnP A a b) W v ↔ Vlp un P A (((x : Int), (y : Int)) :: W) v := by
  have e : Vl un P A v → (ptT v (x : Int) = ptT v (y : Int) ↔ v a = v b) := fun hV => by
    rw [ptT_p _ _ (by omega), ptT_p _ _ (by omega), natc, natc, hV.root hU x hx, hV.root hU y hy]
    rcases hab with ⟨e1, e2⟩ | ⟨e1, e2⟩
    · rw [e1, e2]
    · rw [e1, e2]
      exact eq_comm
  constructor
  · rintro ⟨h1, h2⟩
    obtain ⟨g1, g2⟩ := (Vl.link ha ra v).mp h1
    refine ⟨g1, fun q hq => ?_⟩
    rcases List.mem_cons.mp hq with rfl | hq
    · exact (e g1).mpr g2
    · exact h2 q hq
  · rintro ⟨h1, h2⟩
    exact ⟨(Vl.link ha ra v).mpr ⟨h1, (e h1).mp (h2 _ List.mem_cons_self)⟩, fun q hq => h2 q (List.mem_cons_of_mem _ hq)⟩
/-- two types of one code are linked; their parts wait -/
theorem PCp.linkK {x y a b : Nat} {W W2 : List (Int × Int)} (h : PCp un P A rt (((x : Int), (y : Int)) :: W)) (hU : Uf P A rt u) (hx : x < P) (hy : y < P) (hab : (rt x = a ∧ rt y = b) ∨ (rt x = b ∧ rt y = a)) (ha : a < P) (ra : A.1 a = a) (ca : A.2.1 a ≠ un) (cab : A.2.1 a = A.2.1 b) (hW : ∀ q ∈ W, q ∈ W2) (hW2 : ∀ c : Nat → Nat, (∀ q ∈ W2, prt c q.1 = prt c q.2) → prt c (A.2.2.1 a) = prt c (A.2.2.1 b) ∧ prt c (A.2.2.2 a) = prt c (A.2.2.2 b)) : PCp un P (lnP A a b) (rtL rt a b) W2 := by
  refine ⟨fun k hk hn => ?_, fun c hc hw k hk hn => ?_⟩
  · show A.2.1 (rtL rt a b k) = A.2.1 k
    by_cases e : rt k = a
    · rw [show rtL rt a b k = b from if_pos e, ← cab, ← e]
      exact h.1 k hk hn
    · rw [show rtL rt a b k = rt k from if_neg e]
      exact h.1 k hk hn
  · have hcA : ∀ k, k < P → c k = c (A.1 k) := fun k hk => by
      by_cases e : k = a
      · rw [e, ra]
      · have := hc k hk
        rw [show (lnP A a b).1 k = A.1 k from if_neg e] at this
        exact this
    have eab : c a = c b := by
      have := hc a ha
      rw [show (lnP A a b).1 a = b from if_pos rfl] at this
      exact this
    have old := h.2 c hcA (fun q hq => by
      rcases List.mem_cons.mp hq with rfl | hq
      · have hcr := cmp_rt hU hcA
        show prt c (x : Int) = prt c (y : Int)
        unfold prt
        rw [if_neg (by omega), if_neg (by omega), natc, natc, hcr x hx, hcr y hy]
        rcases hab with ⟨e1, e2⟩ | ⟨e1, e2⟩
        · rw [e1, e2, eab]
        · rw [e1, e2, eab]
      · exact hw q (hW q hq)) k hk hn
    show prt c (A.2.2.1 k) = prt c (A.2.2.1 (rtL rt a b k)) ∧ prt c (A.2.2.2 k) = prt c (A.2.2.2 (rtL rt a b k))
    by_cases e : rt k = a
    · rw [show rtL rt a b k = b from if_pos e]
      rw [e] at old
      obtain ⟨w1, w2⟩ := hW2 c hw
      exact ⟨old.1.trans w1, old.2.trans w2⟩
    · rw [show rtL rt a b k = rt k from if_neg e]
      exact old
theorem Vlp.linkK {x y a b : Nat} {W W2 : List (Int × Int)} (hU : Uf P A rt u) (hx : x < P) (hy : y < P) (hab : (rt x = a ∧ rt y = b) ∨ (rt x = b ∧ rt y = a)) (ha : a < P) (hb : b < P) (ra : A.1 a = a) (ca : A.2.1 a ≠ un) (cb : A.2.1 b ≠ un) (hW : ∀ q ∈ W, q ∈ W2) (hW2 : ∀ q ∈ W2, q ∈ W ∨ (∀ v : Nat → aT, ptT v (A.2.2.1 a) = ptT v (A.2.2.1 b) → ptT v (A.2.2.2 a) = ptT v (A.2.2.2 b) → ptT v q.1 = ptT v q.2)) (v : Nat → aT) : Vlp un P (lnP A a b) W2 v ↔ Vlp un P A (((x : Int), (y : Int)) :: W) v := by
  rw [← Vlp.linkU hU hx hy hab ha ra v]
  refine ⟨fun h => ⟨h.1, fun q hq => h.2 q (hW q hq)⟩, fun h => ⟨h.1, fun q hq => ?_⟩⟩
  rcases hW2 q hq with g | g
  · exact h.2 q g
  · obtain ⟨g1, g2⟩ := (Vl.link ha ra v).mp h.1
    obtain ⟨p1, p2⟩ := g1.parts ha hb ca cb g2
    exact g v p1 p2
end
