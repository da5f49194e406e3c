/-! THE REFERENCE'S POOL OF TYPES -/
abbrev unM : Int := -1
/-- kind 64, first 65, second 66, same 67 (-1: itself) -/
def vwM (s : aZ) : aPl := (fun k => if zz s 67 k = -1 then k else (zz s 67 k).toNat, fun k => zz s 64 k, fun k => zz s 65 k, fun k => zz s 66 k)
theorem vwM_of {s s2 : aZ} (h : ∀ k, 64 ≤ k → k ≤ 67 → ∀ j, zz s2 k j = zz s k j) : vwM s2 = vwM s := by
  unfold vwM
  refine Prod.ext (funext fun k => ?_) (Prod.ext (funext fun k => h 64 (by decide) (by decide) k) (Prod.ext (funext fun k => h 65 (by decide) (by decide) k) (funext fun k => h 66 (by decide) (by decide) k)))
  show (if zz s2 67 k = -1 then k else (zz s2 67 k).toNat) = (if zz s 67 k = -1 then k else (zz s 67 k).toNat)
  rw [h 67 (by decide) (by decide) k]
/-- a node is linked to another -/
theorem vwM_ln (s : aZ) (a b : Nat) (hb : b < 60000) : vwM (zu s 67 a (b : Int)) = lnP (vwM s) a b := by
  unfold vwM lnP
  refine Prod.ext (funext fun k => ?_) (Prod.ext (funext fun k => zz_ne _ _ _ _ _ _ (by omega)) (Prod.ext (funext fun k => zz_ne _ _ _ _ _ _ (by omega)) (funext fun k => zz_ne _ _ _ _ _ _ (by omega))))
  show (if zz (zu s 67 a (b : Int)) 67 k = -1 then k else (zz (zu s 67 a (b : Int)) 67 k).toNat) = (if k = a then b else if zz s 67 k = -1 then k else (zz s 67 k).toNat)
  by_cases e : k = a
  · subst e
    rw [zz_same _ _ _ ⟨by omega, by omega⟩, if_neg (by omega), if_pos rfl, natc]
  · rw [zz_ne _ _ _ _ _ _ (by omega), if_neg e]
/-- the pool has P nodes, all that they name lies below P -/
def PMr (P : Nat) (s : aZ) : Prop := zz s 56 16 = (P : Nat) ∧ ∀ j, j < P → (-1 ≤ zz s 65 j ∧ zz s 65 j < P) ∧ (-1 ≤ zz s 66 j ∧ zz s 66 j < P) ∧ (-1 ≤ zz s 67 j ∧ zz s 67 j < P ∧ zz s 67 j ≠ (j : Int))
section
variable {B : aH} {P : Nat} {rt u : Nat → Nat}
theorem m_last (hB : a_Can B) {d : Nat} (l : aZL) (hP : P ≤ 60000) (s : aZ) (hS : PMr P s) (hU : Uf P (vwM s) rt u) (x : Nat) (hx : x < P) : a_W d 194 0 [.ref 56, iv (x : Int), .retAddr 0] [] (mkH B s l) (fun q => q = (.inl (some (iv ((rt x : Nat) : Int))), mkH B s l)) := by
  have loop : ∀ (m y : Nat), y < P → u y ≤ m → rt y = rt x → a_W d 194 2 [.ref 56, iv (x : Int), iv (y : Int)] [] (mkH B s l) (fun q => q = (.inl (some (iv ((rt x : Nat) : Int))), mkH B s l)) := by
    intro m
    induction m with
    | zero =>
      intro y hy hu he
      obtain ⟨g1, g2, g3, g4, g5, g6, -⟩ := hU y hy
      have hb := (hS.2 y hy).2.2
      have hr : (vwM s).1 y = y := Decidable.byContradiction (fun c => by have := g6 c; omega)
      have hz : zz s 67 y = -1 := Decidable.byContradiction (fun e => by
        have q : (vwM s).1 y = (zz s 67 y).toNat := if_neg e
        omega)
      refine w194_2 hB _ _ s l ⟨⟨by omega, by omega⟩, ?_⟩
      rw [natc]
      exact ⟨fun _ => by rw [← he, (g5 hr).1], fun c => absurd hz c⟩
    | succ m ih =>
      intro y hy hu he
      obtain ⟨g1, g2, g3, g4, g5, g6, -⟩ := hU y hy
      have hb := (hS.2 y hy).2.2
      refine w194_2 hB _ _ s l ⟨⟨by omega, by omega⟩, ?_⟩
      rw [natc]
      refine ⟨fun c => ?_, fun c => ?_⟩
      · have hr : (vwM s).1 y = y := if_pos c
        rw [← he, (g5 hr).1]
      · have q : (vwM s).1 y = (zz s 67 y).toNat := if_neg c
        rw [q] at g1 g4 g6
        have hn : (zz s 67 y).toNat ≠ y := by omega
        have h6 := g6 hn
        obtain ⟨y2, ey⟩ : ∃ z : Nat, zz s 67 y = z := ⟨(zz s 67 y).toNat, by omega⟩
        rw [ey, natc] at g1 g4 h6
        rw [ey]
        exact ih y2 g1 (by omega) (g4.trans he)
  exact w194_0 hB _ s l (loop (u x) x hx (Nat.le_refl _) rfl)
end
