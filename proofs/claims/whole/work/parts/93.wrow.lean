/-! THE REFERENCE READS A ROW OF TYPES -/
theorem pLk_some {t : Nat → Int} {n i : Nat} {r : aPr} {q : (Int × Nat) ⊕ (aT × Nat)} (h : pLk t n i r = some q) : (ftT t n i ≠ 0 ∧ q = .inl (ftT t n i, i)) ∨ (ftT t n i = 0 ∧ r = some q) := by
  unfold pLk at h
  split at h
  · rename_i h1
    cases h
    exact Or.inl ⟨h1, rfl⟩
  · rename_i h1
    exact Or.inr ⟨Decidable.of_not_not h1, h⟩
/-- what follows an atom -/
def pA (t : Nat → Int) (n N dep j : Nat) (a : aT) : aPr := pLk t n j (if kdT t n j = 8 then pBd (pty t n N 0 dep (j + 1)) (fun b k => some (.inr (.branch 3 a b, k))) else some (.inr (a, j)))
theorem pty_0 (t : Nat → Int) (n N dep i : Nat) : pty t n (N + 1) 0 dep i = pLk t n i (pBd (pty t n N 1 dep i) (fun a j => pA t n N dep j a)) := rfl
theorem pty_1 (t : Nat → Int) (n N dep i : Nat) : pty t n (N + 1) 1 dep i = pLk t n i (if kdT t n i = 4 then pty t n N 2 dep i else if kdT t n i = 2 then some (.inr (.leaf (0, i), i + 1)) else if kdT t n i = 1 then pBd (pty t n N 3 dep (i + 1)) (fun a j => some (.inr (.branch (4 * i + 1) a (.leaf (1, 0)), j))) else some (.inl (2, i))) := rfl
theorem pty_2 (t : Nat → Int) (n N dep i : Nat) : pty t n (N + 1) 2 dep i = pLk t n i (pLk t n (i + 1) (if 40 ≤ dep then some (.inl (8, i + 1)) else pBd (pty t n N 0 (dep + 1) (i + 1)) (fun a j => pLk t n j (if kdT t n j = 5 then some (.inr (a, j + 1)) else some (.inl (2, j)))))) := rfl
theorem pty_3 (t : Nat → Int) (n N dep i : Nat) : pty t n (N + 1) 3 dep i = pLk t n i (if kdT t n i = 1 then pBd (pty t n N 3 dep (i + 1)) (fun r j => some (.inr (.branch 2 (.branch (4 * i + 1) (.leaf (1, 0)) (.leaf (1, 0))) r, j)))
      else if kdT t n i = 2 then pBd (pty t n N 3 dep (i + 1)) (fun r j => some (.inr (.branch 2 (.leaf (0, i)) r, j)))
      else if kdT t n i = 4 then pBd (pty t n N 2 dep i) (fun a j => pBd (pty t n N 3 dep j) (fun r k => some (.inr (.branch 2 a r, k))))
      else some (.inr (.leaf (1, 0), i))) := rfl
/-- the number of the variable that token i names -/
def vT (t : Nat → Int) (n : Nat) (vs : List (List Int)) (i : Nat) : Int := ixn (nsT t n vs i) (nmT t n (stT t n i))
/-- the symbols of several types -/
def lsW : List aT → Nat
  | [] => 0
  | T :: ts => tyW T + lsW ts
theorem accF_ls : ∀ (ts : List aT) (acc : aT), tyW (accF ts acc) = lsW ts + tyW acc := by
  intro ts
  induction ts with
  | nil => intro acc; exact (Nat.zero_add _).symm
  | cons T ts ih =>
    intro acc
    have h := ih (.branch 2 T acc)
    rw [tyW_b, if_pos rfl] at h
    show tyW (accF ts (.branch 2 T acc)) = tyW T + lsW ts + tyW acc
    omega
theorem arrF_ls : ∀ (ts : List aT) (acc : aT), tyW (arrF ts acc) = lsW ts + tyW acc + ts.length := by
  intro ts
  induction ts with
  | nil => intro acc; exact (Nat.zero_add _).symm
  | cons T ts ih =>
    intro acc
    have h := ih (.branch 3 T acc)
    rw [tyW_b, if_neg (by decide)] at h
    show tyW (arrF ts (.branch 3 T acc)) = tyW T + lsW ts + tyW acc + (ts.length + 1)
    omega
/-- what a read type comes to: W written before -/
def MPo (t : Nat → Int) (n : Nat) (vs : List (List Int)) (W dep K : Nat) (r : (Int × Nat) ⊕ (aT × Nat)) (B : aH) (s : aZ) (l : aZL) (q : aR) : Prop := ∃ (s2 : aZ) (l2 : aZL) (w : Nat), q = (.inl (some (iv (w : Int))), mkH B s2 l2) ∧ FrW s s2 l l2 ∧ WFr W s s2 ∧ w < 12100 ∧ ((∃ T j W2, r = .inr (T, j) ∧ MAt t n vs j s2 l2 ∧ zz s2 56 32 = dep ∧ zz s2 56 33 = (W2 : Nat) ∧ (W2 + K ≤ j ∧ W2 = W + tyW T) ∧ WI s2 (vT t n vs) T false W W2 w) ∨ (∃ f j, r = .inl (f, j) ∧ MF t n f (stT t n j) (nsT t n vs (j + 1)) s2 l2))
theorem MPo.pre {t : Nat → Int} {n : Nat} {vs : List (List Int)} {W dep K : Nat} {r : (Int × Nat) ⊕ (aT × Nat)} {B : aH} {s s1 : aZ} {l l1 : aZL} {q : aR} (f : FrW s s1 l l1) (g : WFr W s s1) (h : MPo t n vs W dep K r B s1 l1 q) : MPo t n vs W dep K r B s l q := by
  obtain ⟨s2, l2, w, a1, a2, a3, a4⟩ := h
  exact ⟨s2, l2, w, a1, f.tr a2, g.tr a3 (Nat.le_refl _), a4⟩
def resM (f : aT → aT) (r : (Int × Nat) ⊕ (aT × Nat)) : (Int × Nat) ⊕ (aT × Nat) := match r with
  | .inr q => .inr (f q.1, q.2)
  | .inl e => .inl e
theorem RC.push {s s2 : aZ} {v : Nat → Int} {ts : List aT} {T : aT} {lo hi W2 x : Nat} {r : Int} (h : RC s v ts lo hi r) (hl : lo ≤ hi) (hT : WI s v T false hi W2 x) (e : ∀ k j, 75 ≤ k → k ≤ 81 → lo ≤ j → j < W2 → (k ≠ 78 ∨ j ≠ x) → zz s2 k j = zz s k j) (e2 : zz s2 78 x = r) : RC s2 v (T :: ts) lo W2 x := by
  have hx := hT.rng
  refine ⟨hi, x, hl, by omega, rfl, (WI.keep T).1 hi W2 x hT (fun k j h1 h2 h3 h4 h5 => e k j h1 h2 (by omega) h4 (by omega)), ?_⟩
  rw [e2]
  exact RC.keep ts lo hi r h (fun k j h1 h2 h3 h4 => e k j h1 h2 h3 (by omega) (by omega))
theorem RC.r {s : aZ} {v : Nat → Int} {ts : List aT} {lo hi : Nat} {r : Int} (h : RC s v ts lo hi r) : r = -1 ∨ (lo ≤ r ∧ r < hi) := by
  cases ts with
  | nil => exact Or.inl h
  | cons T ts =>
    obtain ⟨c, x, c1, c2, c3, c4, c5⟩ := h
    have := c4.rng
    omega
section
variable {B : aH} {t : Nat → Int} {n : Nat} {vs : List (List Int)}
/-- in parentheses -/
def MA2 (B : aH) (t : Nat → Int) (n : Nat) (vs : List (List Int)) (N : Nat) : Prop := ∀ (d dep K i W : Nat) (s : aZ) (l : aZL) (res : (Int × Nat) ⊕ (aT × Nat)), 18 + 3 * (40 - dep) ≤ d → dep ≤ 40 → pty t n N 2 dep i = some res → ftT t n i = 0 → kdT t n i = 4 → MC t n vs (i + 1) i s l → (∀ j, j < i → stT t n j < n) → zz s 56 32 = dep → zz s 56 33 = W → W + K ≤ i → a_W d 169 0 [.ref 56, .retAddr 0] [] (mkH B s l) (MPo t n vs W dep K res B s l)
/-- the row is at its end -/
theorem m_rowEnd (hB : a_Can B) {d : Nat} (hd : 1 ≤ d) {s0 s : aZ} {l0 l : aZL} (W W2 dep K i0 j : Nat) (ts : List aT) (r x1 x4 : Int) (u5 u6 : Value) (hW : W < W2 ∧ W2 = W + 1 + lsW ts) (hW2 : W2 + K ≤ j) (hj : j ≤ 6000) (f : FrW s0 s l0 l) (g : WFr W s0 s) (hR : RC s (vT t n vs) ts (W + 1) W2 r) (h75 : zz s 75 W = 1) (h76 : zz s 76 W = i0) (h77 : zz s 77 W = -1) (h79 : zz s 79 W = 0) (h80 : zz s 80 W = 1) (h81 : zz s 81 W = 1) (h33 : zz s 56 33 = (W2 : Nat)) (res : (Int × Nat) ⊕ (aT × Nat)) (hr : (res = .inr (.leaf (1, 0), j) ∧ MAt t n vs j s l ∧ zz s 56 32 = dep) ∨ (∃ f j, res = .inl (f, j) ∧ MF t n f (stT t n j) (nsT t n vs (j + 1)) s l)) : a_W d 168 257 [.ref 56, iv x1, iv (W : Int), iv r, iv x4, u5, u6] [] (mkH B s l) (MPo t n vs W dep K (resM (fun R => .branch (4 * i0 + 1) (accF ts R) (.leaf (1, 0))) res) B s0 l0) := by
  refine a_W.imp (m_pop hB hd l W x1 x4 W2 (by omega) ts (.leaf (1, 0)) (W + 1) W2 r u5 u6 s (by omega) (by omega) (Nat.le_refl _) hR ⟨rfl, h77⟩ h79 h80 h81) ?_
  rintro _ ⟨s2, lo2, rfl, e1, e2, e3, e4, e5, e6, e7, e8, e9⟩
  have fr : FrR s s2 := ⟨fun k h1 h2 => e9 k (by omega) (by omega) (by omega) (by omega) (by omega), fun j _ _ => zz_of (e9 56 (by decide) (by decide) (by decide) (by decide) (by decide)) j⟩
  refine ⟨s2, l, W, rfl, f.tr (fr.w l), g.tr (fun k h1 h2 j hj => e6 k j (by omega) (by omega)) (Nat.le_refl _), by omega, ?_⟩
  rcases hr with ⟨rfl, hA, h32⟩ | ⟨f1, j1, rfl, hF⟩
  · refine Or.inl ⟨.branch (4 * i0 + 1) (accF ts (.leaf (1, 0))) (.leaf (1, 0)), j, W2, rfl, hA.rw fr, (zz_of (e9 56 (by decide) (by decide) (by decide) (by decide) (by decide)) 32).trans h32, (zz_of (e9 56 (by decide) (by decide) (by decide) (by decide) (by decide)) 33).trans h33, ⟨hW2, by rw [tyW_b, if_neg (by omega), show tyW (.leaf (1, 0)) = 0 from rfl, accF_ls, show tyW (.leaf (1, 0)) = 0 from rfl]; omega⟩, ⟨by omega, by omega⟩, ?_, ?_, Or.inr ⟨by omega, rfl, ?_, ?_, ?_, ?_⟩⟩
    · rw [natc, e4, tyW_b, if_neg (by omega), show tyW (.leaf (1, 0)) = 0 from rfl]
      omega
    · rw [natc, e5, tyH_b, if_neg (by omega), show tyH (.leaf (1, 0)) = 0 from rfl]
      omega
    · rw [natc, (e7 W).1]; exact h75
    · rw [natc, (e7 W).2, h76]; omega
    · rw [natc]; exact e3
    · rw [natc]
      revert e2
      generalize accF ts (.leaf (1, 0)) = R
      intro e2
      cases R with
      | leaf q => exact e2
      | branch m a b =>
        have hlo : lo2 ≤ W2 := by
          obtain ⟨m2, c, x, c1, c2, c3, c4, c5⟩ := e2
          omega
        exact (WI.mono _).2 _ _ _ _ _ e2 e1 (Nat.le_refl _) hlo
  · exact Or.inr ⟨f1, j1, rfl, hF.rw fr⟩
end
