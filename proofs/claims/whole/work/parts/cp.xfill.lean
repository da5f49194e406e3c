/-! THE READER SHOWS A TERM -/
/-- rows one behind the other: cs their starts, cr what stands in them -/
def RwF (cs cr : Nat) (s : aZ) : List (List Int) → Nat → Nat → Prop
  | [], i, at' => zz s cs i = (at' : Nat)
  | r :: rs, i, at' => zz s cs i = (at' : Nat) ∧ (∀ k, k < r.length → zz s cr (at' + k) = r.getD k 0) ∧ RwF cs cr s rs (i + 1) (at' + r.length)
abbrev aPd : Type := List (aT × Nat × List Nat)
def pdW : aPd → Nat
  | [] => 0
  | q :: ps => tmW q.1 + pdW ps
def pdS : aPd → List Int
  | [] => []
  | q :: ps => syK q.1 ++ pdS ps
def pdL : aPd → List Nat
  | [] => []
  | q :: ps => q.2.2 ++ pdL ps
theorem syK_len : ∀ K : aT, coK K → (syK K).length = tmW K := by
  intro K
  induction K with
  | leaf q =>
    intro h
    rw [(lf_w q h).1]
    rfl
  | branch m a b iha ihb =>
    rintro (⟨rfl, ka, kb⟩ | ⟨rfl, ka⟩ | ⟨rfl, kb⟩)
    · show (-1 :: (syK a ++ syK b)).length = 1 + (tmW a + tmW b)
      rw [List.length_cons, List.length_append, iha ka, ihb kb]
      omega
    · exact iha ka
    · show (-2 :: syK b).length = 1 + tmW b
      rw [List.length_cons, ihb kb]
      omega
theorem pd_len : ∀ ps : aPd, ps.length ≤ pdW ps := by
  intro ps
  induction ps with
  | nil => exact Nat.le_refl _
  | cons q ps ih =>
    have := (tm_pos q.1).1
    show ps.length + 1 ≤ tmW q.1 + pdW ps
    omega
/-- a type that is written with a term has no node of its own -/
theorem TI.strip {s : aZ} {lo hi : Nat} : ∀ (K : aT) (w : Nat) (L : List Nat), coK K → TI s lo hi K w L → ∃ K2, coK K2 ∧ TI s lo hi K2 w L ∧ syK K2 = syK K ∧ tmW K2 = tmW K ∧ ∀ a b, K2 ≠ .branch 2 a b := by
  intro K
  induction K with
  | leaf q => intro w L hk h; exact ⟨_, hk, h, rfl, rfl, fun a b c => by cases c⟩
  | branch m a b iha ihb =>
    intro w L hk h
    rcases hk with ⟨rfl, ka, kb⟩ | ⟨rfl, ka⟩ | ⟨rfl, kb⟩
    · exact ⟨.branch 0 a b, Or.inl ⟨rfl, ka, kb⟩, h, rfl, rfl, fun a b c => by cases c⟩
    · exact iha w L ka (TI_as.mp h)
    · exact ⟨.branch 1 a b, Or.inr (Or.inr ⟨rfl, kb⟩), h, rfl, rfl, fun a b c => by cases c⟩
section
variable {B : aH} {P : Nat} {rt u : Nat → Nat} {s0 : aZ}
theorem x_w54 (hB : a_Can B) {ar : Int → Nat} (hE : PE ar P s0 rt u) (hA : AcP unX P (vwX s0) rt (fun k => (zz s0 23 k).toNat)) (hP : P ≤ 17000) {d : Nat} (hd : 1 ≤ d) (l : aZL) (k at' : Nat) (hk : k < P) (hz : szT (tN s0 rt k) ≤ 40) (ha : at' + 40 ≤ 20000) {sn : List Nat} (hsn : sn.length ≤ at') {s : aZ} (hw : xWr P rt u s0 s sn) : a_W d 115 0 [.ref 17, iv (k : Int), .ref 54, iv (at' : Int), .retAddr 0, .retAddr 0, .retAddr 0] [] (mkH B s l) (fun q => ∃ s2, q = (.inl (some (iv ((at' + (wrT (tN s0 rt k) sn).1.length : Nat) : Int))), mkH B s2 l) ∧ xWr P rt u s0 s2 (wrT (tN s0 rt k) sn).2 ∧ (∀ j, j < (wrT (tN s0 rt k) sn).1.length → zz s2 54 (at' + j) = (wrT (tN s0 rt k) sn).1.getD j 0) ∧ (∀ j, j < at' → zz s2 54 j = zz s 54 j) ∧ ((wrT (tN s0 rt k) sn).2.length ≤ at' + (wrT (tN s0 rt k) sn).1.length) ∧ ∀ k, k ≠ 17 → k ≠ 18 → k ≠ 21 → k ≠ 24 → k ≠ 54 → s2 k = s k) := by
  have e1 : szN ([k].map (tN s0 rt)) = szT (tN s0 rt k) := rfl
  have e2 : wrN ([k].map (tN s0 rt)) sn = ((wrT (tN s0 rt k) sn).1, (wrT (tN s0 rt k) sn).2) := by
    show ((wrT (tN s0 rt k) sn).1 ++ [], (wrT (tN s0 rt k) sn).2) = _
    rw [List.append_nil]
  have sl : ∀ (T : aT) (sn : List Nat), (wrT T sn).2.length ≤ sn.length + (wrT T sn).1.length := by
    intro T
    induction T with
    | leaf q =>
      intro sn
      show (if q.1 = 2 then (if ixV sn q.2 < sn.length then ([-1 - (ixV sn q.2 : Int)], sn) else ([-1 - (sn.length : Int)], sn ++ [q.2])) else ([], sn) : List Int × List Nat).2.length ≤ sn.length + (if q.1 = 2 then (if ixV sn q.2 < sn.length then ([-1 - (ixV sn q.2 : Int)], sn) else ([-1 - (sn.length : Int)], sn ++ [q.2])) else ([], sn) : List Int × List Nat).1.length
      split
      · split
        · exact Nat.le_add_right _ _
        · rw [List.length_append]
          exact Nat.le_refl _
      · exact Nat.le_add_right _ _
    | branch e x y ihx ihy =>
      intro sn
      have a := ihx sn
      have b := ihy (wrT x sn).2
      show (wrT y (wrT x sn).2).2.length ≤ sn.length + (dec e :: ((wrT x sn).1 ++ (wrT y (wrT x sn).2).1)).length
      rw [List.length_cons, List.length_append]
      omega
  have sl1 := sl (tN s0 rt k) sn
  refine w115f_0 hB _ _ s l ?_
  have hk1 : xSt (zu s 24 0 (k : Int)) [k] := fun i hi => by
    have : i = 0 := by have : i < 1 := hi; omega
    subst this
    exact zz_same _ _ _ ⟨by omega, by omega⟩
  refine a_W.imp (x_wloop hB hE hA hP hd l (k : Int) (at' : Int) (szT (tN s0 rt k)) [k] at' sn (zu s 24 0 (k : Int)) _ (Nat.le_refl _) (by rw [e1]; omega) (by rw [e1]; omega) (fun q hq => by rw [List.mem_singleton.mp hq]; exact hk) hsn (hw.wr 24 _ _ (by omega)) hk1) ?_
  rintro _ ⟨s2, rfl, p1, p2, p3, p4⟩
  rw [e1] at p2 ⊢
  rw [e2] at p1 p2
  rw [← wrT_len (tN s0 rt k) sn] at p2 ⊢
  exact ⟨s2, rfl, p1, p2, fun j hj => (p3 j hj).trans (zz_ne _ _ _ _ _ _ (by omega)), by omega, fun q a b c d e => (p4 q a b c d e).trans (zu_ne _ _ _ _ _ d)⟩
/-- a part is put aside -/
theorem x_put55 (hB : a_Can B) {d : Nat} (l : aZL) (x : Nat) (hx : x ≤ 501) (dep : Nat) (hdep : dep < 501) (s : aZ) : a_W d 118 0 [.ref 51, iv (x : Int), iv (dep : Int)] [] (mkH B s l) (fun q => q = (.inl (some (iv ((if 0 < x then dep + 1 else dep : Nat) : Int))), mkH B (if 0 < x then zu s 55 dep (x : Int) else s) l)) := by
  refine w118_0 hB _ _ s l ⟨⟨by omega, by omega⟩, fun c => ⟨⟨by omega, by omega⟩, ?_⟩, fun c => ?_⟩
  · rw [if_pos (by omega), if_pos (by omega), natc]
    rfl
  · rw [if_neg (by omega), if_neg (by omega)]
end
