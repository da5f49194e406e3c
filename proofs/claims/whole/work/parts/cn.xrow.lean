/-! THE READER WRITES A TYPE: what is unknown takes a number when it is first written -/
/-- types are written one behind the other -/
def wrN : List aT → List Nat → List Int × List Nat
  | [], sn => ([], sn)
  | T :: Ts, sn => ((wrT T sn).1 ++ (wrN Ts (wrT T sn).2).1, (wrN Ts (wrT T sn).2).2)
def szN : List aT → Nat
  | [] => 0
  | T :: Ts => szT T + szN Ts
theorem wrT_len : ∀ (T : aT) (sn : List Nat), (wrT T sn).1.length = szT T := by
  intro T
  induction T with
  | leaf q =>
    intro sn
    show (if q.1 = 2 then (if _ then _ else _) else _ : List Int × List Nat).1.length = (if q.1 = 2 then 1 else 0)
    by_cases h : q.1 = 2
    · rw [if_pos h, if_pos h]
      split <;> rfl
    · rw [if_neg h, if_neg h]
      rfl
  | branch e x y ihx ihy =>
    intro sn
    show (dec e :: ((wrT x sn).1 ++ (wrT y (wrT x sn).2).1)).length = 1 + (szT x + szT y)
    rw [List.length_cons, List.length_append, ihx, ihy]
    omega
theorem wrN_len : ∀ (Ts : List aT) (sn : List Nat), (wrN Ts sn).1.length = szN Ts := by
  intro Ts
  induction Ts with
  | nil => intro sn; rfl
  | cons T Ts ih =>
    intro sn
    show ((wrT T sn).1 ++ _).length = szT T + szN Ts
    rw [List.length_append, wrT_len, ih]
theorem wrN_b (e : Nat) (x y : aT) (Ts : List aT) (sn : List Nat) : wrN (.branch e x y :: Ts) sn = (dec e :: (wrN (x :: y :: Ts) sn).1, (wrN (x :: y :: Ts) sn).2) := by
  show (dec e :: ((wrT x sn).1 ++ (wrT y (wrT x sn).2).1) ++ _, _) = (dec e :: ((wrT x sn).1 ++ ((wrT y (wrT x sn).2).1 ++ _)), _)
  rw [List.cons_append, List.append_assoc]
  rfl
theorem wrN_0 (Ts : List aT) (sn : List Nat) : wrN (cNo :: Ts) sn = wrN Ts sn := rfl
theorem wrN_v (v : Nat) (Ts : List aT) (sn : List Nat) : wrN (vrT v :: Ts) sn = if ixV sn v < sn.length then ((-1 - (ixV sn v : Int)) :: (wrN Ts sn).1, (wrN Ts sn).2) else ((-1 - (sn.length : Int)) :: (wrN Ts (sn ++ [v])).1, (wrN Ts (sn ++ [v])).2) := by
  have e : wrT (vrT v) sn = if ixV sn v < sn.length then ([-1 - (ixV sn v : Int)], sn) else ([-1 - (sn.length : Int)], sn ++ [v]) := if_pos rfl
  show ((wrT (vrT v) sn).1 ++ (wrN Ts (wrT (vrT v) sn).2).1, (wrN Ts (wrT (vrT v) sn).2).2) = _
  rw [e]
  split <;> rfl
theorem ixV_le : ∀ (sn : List Nat) (v : Nat), ixV sn v ≤ sn.length := by
  intro sn
  induction sn with
  | nil => intro v; exact Nat.le_refl _
  | cons a l ih =>
    intro v
    show (if a = v then 0 else ixV l v + 1) ≤ l.length + 1
    split
    · omega
    · have := ih v; omega
theorem ixV_snoc : ∀ (sn : List Nat) (a v : Nat), ixV (sn ++ [a]) v = if ixV sn v < sn.length then ixV sn v else if a = v then sn.length else sn.length + 1 := by
  intro sn
  induction sn with
  | nil =>
    intro a v
    exact (if_neg (c := ixV [] v < ([] : List Nat).length) (Nat.lt_irrefl 0)).symm
  | cons b l ih =>
    intro a v
    show (if b = v then 0 else ixV (l ++ [a]) v + 1) = (if (if b = v then 0 else ixV l v + 1) < l.length + 1 then (if b = v then 0 else ixV l v + 1) else if a = v then l.length + 1 else l.length + 1 + 1)
    by_cases e : b = v
    · rw [if_pos e, if_pos e, if_pos (show 0 < l.length + 1 by omega)]
    · rw [if_neg e, if_neg e, ih]
      by_cases q : ixV l v < l.length
      · rw [if_pos q, if_pos (show ixV l v + 1 < l.length + 1 by omega)]
      · rw [if_neg q, if_neg (show ¬ ixV l v + 1 < l.length + 1 by omega)]
        split <;> rfl
section
variable {B : aH} {P : Nat} {rt u : Nat → Nat} {s0 : aZ}
/-- what a part resolves to -/
def tX (s0 : aZ) (rt : Nat → Nat) (x : Int) : aT := rsT unX (vwX s0) rt ((zz s0 23 (rt x.toNat)).toNat + 1) x
theorem tX_n {x : Int} (h : x < 0) : tX s0 rt x = cNo := rsT_n _ _ _ _ _ h
theorem tX_u {k : Nat} (h : zz s0 18 (rt k) = unX) : tX s0 rt (k : Int) = vrT (rt k) := by
  unfold tX
  rw [rsT_s, if_neg (by omega), natc, if_pos (show (vwX s0).2.1 (rt k) = unX from h)]
theorem tX_b {ar : Int → Nat} (hE : PE ar P s0 rt u) (hA : AcP unX P (vwX s0) rt (fun k => (zz s0 23 k).toNat)) {k : Nat} (hk : k < P) (h : zz s0 18 (rt k) ≠ unX) : tX s0 rt (k : Int) = .branch (enc (zz s0 18 (rt k))) (tX s0 rt (zz s0 19 (rt k))) (tX s0 rt (zz s0 20 (rt k))) := by
  obtain ⟨q1, q2⟩ := rt_rt hE.2.1 hk
  have hr : (vwX s0).1 (rt k) = rt k := (hE.2.1 k hk).2.2.1
  obtain ⟨l1, l2⟩ := hA (rt k) q1 hr h
  have hPr := hE.1.2.2.2 _ q1
  have e : ∀ x : Int, -1 ≤ x → x < P → (0 ≤ x → (zz s0 23 (rt x.toNat)).toNat < (zz s0 23 (rt k)).toNat) → rsT unX (vwX s0) rt (zz s0 23 (rt k)).toNat x = tX s0 rt x := fun x a b c => rsT_st hE.2.1 hE.2.2.1.1 hA _ _ x a b (fun q => ⟨c q, Nat.lt_succ_self _⟩)
  unfold tX
  rw [rsT_s, if_neg (by omega), natc, if_neg (show ¬ (vwX s0).2.1 (rt k) = unX from h)]
  rw [show (vwX s0).2.2.1 (rt k) = zz s0 19 (rt k) from rfl, show (vwX s0).2.2.2 (rt k) = zz s0 20 (rt k) from rfl, e _ hPr.1.1 hPr.1.2 l1, e _ hPr.2.1.1 hPr.2.1.2 l2]
  rfl
theorem tX_sz {ar : Int → Nat} (hE : PE ar P s0 rt u) (hA : AcP unX P (vwX s0) rt (fun k => (zz s0 23 k).toNat)) {k : Nat} (hk : k < P) : 1 ≤ szT (tX s0 rt (k : Int)) := by
  by_cases h : zz s0 18 (rt k) = unX
  · rw [tX_u h]; exact Nat.le_refl _
  · rw [tX_b hE hA hk h]
    show 1 ≤ 1 + (_ + _)
    omega
def tN (s0 : aZ) (rt : Nat → Nat) (k : Nat) : aT := tX s0 rt (k : Int)
/-- the reader while it writes types: those unknown that have been written -/
def xWr (P : Nat) (rt u : Nat → Nat) (s0 s : aZ) (sn : List Nat) : Prop := PP P s ∧ Uf P (vwX s) rt u ∧ (∀ k, k ≠ 17 → k ≠ 18 → k ≠ 21 → k ≠ 24 → k < 51 → s k = s0 k) ∧ zz s 17 9 = (sn.length : Nat) ∧ (∀ k, k < P → zz s 18 k = if ixV sn k < sn.length then -1 - (ixV sn k : Int) else zz s0 18 k) ∧ (sn.length ≤ 20000 ∧ ∀ k, k < P → ixV sn k < sn.length → zz s0 18 k = unX ∧ rt k = k)
def xSt (s : aZ) (W : List Nat) : Prop := ∀ i, i < W.length → zz s 24 (W.length - 1 - i) = (W.getD i 0 : Nat)
end
