/-! THE READER READS A WHOLE TERM AND JUDGES IT -/
theorem x_clearU {d : Nat} {B : aH} (hB : a_Can B) (hd : 6 ≤ d) (l : aZL) (s : aZ) : a_W d 46 0 [.ref 17] [] (mkH B s l) (fun q => ∃ s2, q = (.inl none, mkH B s2 l) ∧ PS 1 s2 ∧ zz s2 17 9 = 0 ∧ zz s2 17 10 = 0 ∧ zz s2 17 11 = 0 ∧ (zz s2 18 0 = -1000000 ∧ zz s2 19 0 = -1 ∧ zz s2 20 0 = -1) ∧ zz s2 21 0 = 0 ∧ ∀ k, (k < 17 ∨ 23 < k) → s2 k = s k) := by
  refine w46_0 hB (by omega) s l ?_
  have e8 : zz (zu (zu (zu (zu s 17 8 0) 17 9 0) 17 10 0) 17 11 0) 17 8 = 0 := by rw [zz_ne _ _ _ _ _ _ (by omega), zz_ne _ _ _ _ _ _ (by omega), zz_ne _ _ _ _ _ _ (by omega), zz_same _ _ _ (by decide)]
  have e9 : zz (zu (zu (zu (zu s 17 8 0) 17 9 0) 17 10 0) 17 11 0) 17 9 = 0 := by rw [zz_ne _ _ _ _ _ _ (by omega), zz_ne _ _ _ _ _ _ (by omega), zz_same _ _ _ (by decide)]
  have e10 : zz (zu (zu (zu (zu s 17 8 0) 17 9 0) 17 10 0) 17 11 0) 17 10 = 0 := by rw [zz_ne _ _ _ _ _ _ (by omega), zz_same _ _ _ (by decide)]
  have e11 : zz (zu (zu (zu (zu s 17 8 0) 17 9 0) 17 10 0) 17 11 0) 17 11 = 0 := zz_same _ _ _ (by decide)
  have ek : ∀ k, k ≠ 17 → zu (zu (zu (zu s 17 8 0) 17 9 0) 17 10 0) 17 11 0 k = s k := fun k hk => by rw [zu_ne _ _ _ _ _ hk, zu_ne _ _ _ _ _ hk, zu_ne _ _ _ _ _ hk, zu_ne _ _ _ _ _ hk]
  generalize zu (zu (zu (zu s 17 8 0) 17 9 0) 17 10 0) 17 11 0 = s1 at *
  refine w47_0 hB (by omega) s1 l (w48_0 hB _ _ _ s1 l ⟨fun _ => ⟨⟨by omega, by omega⟩, ?_⟩, fun h => absurd h (by omega)⟩)
  have t8 : (zz s1 17 8).toNat = 0 := by rw [e8]; rfl
  rw [t8, e8]
  have es : zu (zu (zu (zu s1 18 0 (-1000000)) 19 0 (-1)) 20 0 (-1)) 21 0 0 = nwP s1 0 (-1000000) (-1) (-1) := rfl
  rw [es]
  obtain ⟨n1, n2, n3, n4⟩ := nwP_at s1 0 (-1000000) (-1) (-1) (by decide) (by decide) (by decide) (by decide)
  have ne := fun k j h => nwP_ne s1 0 (-1000000) (-1) (-1) k j h
  have nk := fun k h => nwP_k s1 0 (-1000000) (-1) (-1) k h
  generalize nwP s1 0 (-1000000) (-1) (-1) = s2 at *
  have z : ∀ k j, k ≠ 17 → zz (zu s2 17 8 (0 + 1)) k j = zz s2 k j := fun k j h1 => zz_ne _ _ _ _ _ _ (by omega)
  have z17 : ∀ j, j ≠ 8 → zz (zu s2 17 8 (0 + 1)) 17 j = zz s1 17 j := fun j hj => by rw [zz_ne _ _ _ _ _ _ (by omega), ne 17 j (by omega)]
  refine ⟨_, _, l, rfl, _, _, l, rfl, _, rfl, ⟨by decide, ?_, fun j hj => ?_, fun j hj => ?_⟩, (z17 9 (by decide)).trans e9, (z17 10 (by decide)).trans e10, (z17 11 (by decide)).trans e11, ?_, ?_, fun k hk => ?_⟩
  · rw [zz_same _ _ _ (by decide)]; rfl
  · have e : j = 0 := by omega
    rw [e, z 21 0 (by decide), n4]
    decide
  · have e : j = 0 := by omega
    rw [e, z 18 0 (by decide), z 19 0 (by decide), z 20 0 (by decide), n1, n2, n3]
    decide
  · exact ⟨by rw [z 18 0 (by decide), n1], by rw [z 19 0 (by decide), n2], by rw [z 20 0 (by decide), n3]⟩
  · rw [z 21 0 (by decide), n4]; rfl
  · rw [zu_ne _ _ _ _ _ (by omega), nk k (by omega), ek k (by omega)]
section
variable {t : Nat → Int} {n : Nat} {ns tn : List (List Int)} {ta : List Int} {cn : List (List Int)} {ct : List aT} {B : aH}
/-- a whole term: nothing follows -/
def whR (t : Nat → Int) (n : Nat) : (Int × Nat) ⊕ (aT × Nat) → (Int × Nat) ⊕ (aT × Nat)
  | .inl e => .inl e
  | .inr q => if kdT t n q.2 = 0 then .inr q else .inl (2, q.2)
/-- the reader before a term -/
def stR (s : aZ) : aZ := zu (zu (zu (zu (zu s 45 6 1) 45 7 0) 39 3 0) 38 8 0) 38 9 0
theorem stR_f (s : aZ) : (zz (stR s) 45 6 = 1 ∧ zz (stR s) 45 7 = 0 ∧ zz (stR s) 39 3 = 0 ∧ zz (stR s) 38 8 = 0 ∧ zz (stR s) 38 9 = 0) ∧ ∀ k, k ≠ 45 → k ≠ 39 → k ≠ 38 → stR s k = s k := by
  unfold stR
  refine ⟨⟨?_, ?_, ?_, ?_, ?_⟩, fun k a b c => ?_⟩
  · rw [zz_ne _ _ _ _ _ _ (by omega), zz_ne _ _ _ _ _ _ (by omega), zz_ne _ _ _ _ _ _ (by omega), zz_ne _ _ _ _ _ _ (by omega), zz_same _ _ _ (by decide)]
  · rw [zz_ne _ _ _ _ _ _ (by omega), zz_ne _ _ _ _ _ _ (by omega), zz_ne _ _ _ _ _ _ (by omega), zz_same _ _ _ (by decide)]
  · rw [zz_ne _ _ _ _ _ _ (by omega), zz_ne _ _ _ _ _ _ (by omega), zz_same _ _ _ (by decide)]
  · rw [zz_ne _ _ _ _ _ _ (by omega), zz_same _ _ _ (by decide)]
  · rw [zz_same _ _ _ (by decide)]
  · rw [zu_ne _ _ _ _ _ c, zu_ne _ _ _ _ _ c, zu_ne _ _ _ _ _ b, zu_ne _ _ _ _ _ a, zu_ne _ _ _ _ _ a]
theorem x_whole (hB : a_Can B) (hcap : XCap t n ns) (hta : ∀ i, ta.getD i 0 ≤ 2) (h2 : 2 < tn.length) (h2a : ta.getD 2 0 = 2) (hW : ∀ c, c < cn.length → wfC tn.length ta (ct.getD c cNo)) (hcn : CnO cn) (N d : Nat) (hd : 261 ≤ d) (res : (Int × Nat) ⊕ (aT × Nat)) (h : ptm t n N 0 0 [] noT 0 = some res) (s : aZ) (l : aZL) (hA : XAt t n ns 0 s) (hS : PS 1 s) (hTy : XTy tn ta s) (hCo : XCo cn ct s) (h36 : zz s 36 4 = 0) (h0 : zz s 47 0 = 0 ∧ zz s 48 0 = 0 ∧ zz s 49 0 = 0 ∧ zz s 50 0 = 0) : XRs tn ta cn ct 1 1 0 0 (stR s) ∧ ∀ (C : Int → aZ → aZL → Prop), (∀ (s2 : aZ) (w P2 c2 : Nat), XTi t n ns tn ta cn ct 1 1 0 0 0 [] (whR t n res) (stR s) s2 w P2 c2 → C (w : Int) s2 l) → a_W d 55 0 [.ref 38] [] (mkH B s l) (fun r => ∃ (s12 : Nat → Nat → Int32) (l13 : Nat → Nat → Int64), r = (.inl none, mkH B s12 l13) ∧ a_W d 57 0 [.ref 38, iv 0, .retAddr 0, .retAddr 0, .retAddr 0, .retAddr 0] [] (mkH B s12 l13) (fun r => ∃ (v16 : Int) (s14 : Nat → Nat → Int32) (l15 : Nat → Nat → Int64), r = (.inl (some (iv v16)), mkH B s14 l15) ∧ a_W d 106 0 [.ref 1] [] (mkH B s14 l15) (fun r => ∃ (s17 : Nat → Nat → Int32) (l18 : Nat → Nat → Int64), r = (.inl none, mkH B s17 l18) ∧ C v16 s17 l18))) := by
  obtain ⟨⟨f1, f2, f3, f4, f5⟩, fk⟩ := stR_f s
  have zk : ∀ k j, k ≠ 45 → k ≠ 39 → k ≠ 38 → zz (stR s) k j = zz s k j := fun k j a b c => zz_of (fk k a b c) j
  have hA1 : XAt t n ns 0 (stR s) := hA.keep (fun k hk => fk k (by omega) (by omega) (by omega))
  have hR : XRs tn ta cn ct 1 1 0 0 (stR s) := by
    refine ⟨hS.z (zk 17 8 (by decide) (by decide) (by decide)) (fun k k1 k2 j => zk k j (by omega) (by omega) (by omega)), by decide, hTy.fr (fun k k1 k2 => fk k (by omega) (by omega) (by omega)), hCo.fr (fun k k1 k2 => fk k (by omega) (by omega) (by omega)), ⟨f1, by decide, by decide⟩, ⟨f3, by decide⟩, ⟨f4, by decide⟩, ⟨(zk 36 4 (by decide) (by decide) (by decide)).trans h36, (zk 50 0 (by decide) (by decide) (by decide)).trans h0.2.2.2⟩, fun j hj => ?_, fun j hj => absurd hj (Nat.not_lt_zero _), fun j hj => absurd hj (Nat.not_lt_zero _)⟩
    have e : j = 0 := by omega
    subst e
    rw [zk 47 0 (by decide) (by decide) (by decide), zk 48 0 (by decide) (by decide) (by decide), zk 49 0 (by decide) (by decide) (by decide), h0.1, h0.2.1, h0.2.2.1]
    decide
  refine ⟨hR, fun C hC => w55_0 hB (by omega) s l ⟨stR s, l, rfl, ?_⟩⟩
  refine a_W.imp ((x_terms hB hcap hta h2 h2a hW hcn N).1 d 0 0 1 1 0 0 (stR s) l [] res (by omega) (by decide) h (by decide) hA1 hR ⟨[], rfl, fun _ => rfl⟩ (by decide)) ?_
  rintro _ ⟨s2, w, P2, c2, rfl, hX⟩
  refine ⟨_, s2, l, rfl, ?_⟩
  cases res with
  | inl e =>
    have k0 : zz s2 1 6 = 0 := by
      rcases hX.2.2.2.2 with ⟨_, _, hh, -⟩ | ⟨f, j, -, g⟩
      · cases hh
      · exact g.k0
    exact w106_0 hB (by omega) s2 l ⟨fun _ => ⟨s2, l, rfl, hC s2 w P2 c2 hX⟩, fun c => absurd k0 c⟩
  | inr q =>
    obtain ⟨T, j⟩ := q
    obtain ⟨-, -, -, g0, -⟩ := ptm_R t n N 0 0 [] noT 0 _ (by decide) (by decide) (I0D _ _ _ _ _ (by omega)) h
    have g0 : ftT t n j = 0 := g0 (by decide)
    have hA2 : XAt t n ns j s2 := by
      rcases hX.2.2.2.2 with ⟨T', j', hh, g, -⟩ | ⟨f, j, hh, -⟩
      · cases hh
        exact g
      · cases hh
    have k6 := hA2.k6 g0
    refine w106_0 hB (by omega) s2 l ⟨fun c => ⟨s2, l, rfl, hC s2 w P2 c2 ?_⟩, fun c => ⟨fun c2 => absurd (hA2.1 g0).2.1 c2, fun _ => ⟨_, l, rfl, hC _ w P2 c2 ?_⟩⟩⟩
    · rw [show whR t n (.inr (T, j)) = .inr (T, j) from if_pos (k6.symm.trans c)]
      exact hX
    · rw [show whR t n (.inr (T, j)) = .inl (2, j) from if_neg (fun e => c (k6.trans e))]
      obtain ⟨gF, fF⟩ := (hA2.1 g0).die 2 (by decide) (by decide)
      exact hX.die fF gF
/-- too large by its symbols, its height or a written type -/
def lgW (T K : aT) : Prop := 500 < tmW T ∨ 50 < tmH T ∨ lgA K
/-- a row of types of which all others are instances -/
def prR (t : Nat → Int) (n : Nat) (ns tn : List (List Int)) (ct : List aT) (K : aT) (R0 : List aT) : Prop := ∀ X, (∃ f, X = R0.map (sbT f)) ↔ tyd t n ns tn ct K [] X
def lgR (R0 : List aT) : Prop := ∃ τ ∈ R0, 40 < szT τ ∨ 12 < hgT τ
/-- the fault of a term whose syntax is right, or 0 -/
def Vd (t : Nat → Int) (n : Nat) (ns tn : List (List Int)) (ta : List Int) (ct : List aT) (T K : aT) (v : Int) : Prop := (lgW T K ∧ v = 8) ∨ (¬ lgW T K ∧ ((unK K = true ∧ v = 4) ∨ (unK K = false ∧ (((bdA t n tn ta K = true ∨ ∀ R, ¬ tyd t n ns tn ct K [] R) ∧ v = 3) ∨ (bdA t n tn ta K = false ∧ ∃ R0, prR t n ns tn ct K R0 ∧ ((lgR R0 ∧ v = 8) ∨ (¬ lgR R0 ∧ v = 0)))))))
theorem lg_map {R1 R2 : List aT} (h1 : R1.map szT = R2.map szT) (h2 : R1.map hgT = R2.map hgT) : lgR R1 → lgR R2 := by
  rintro ⟨τ, h, q | q⟩
  · have : szT τ ∈ R2.map szT := by rw [← h1]; exact List.mem_map.mpr ⟨τ, h, rfl⟩
    obtain ⟨σ, a, b⟩ := List.mem_map.mp this
    exact ⟨σ, a, Or.inl (by omega)⟩
  · have : hgT τ ∈ R2.map hgT := by rw [← h2]; exact List.mem_map.mpr ⟨τ, h, rfl⟩
    obtain ⟨σ, a, b⟩ := List.mem_map.mp this
    exact ⟨σ, a, Or.inr (by omega)⟩
/-- there is one verdict -/
theorem Vd.one {T K : aT} {v w : Int} (h : Vd t n ns tn ta ct T K v) (g : Vd t n ns tn ta ct T K w) : v = w := by
  have ex : ∀ R0, prR t n ns tn ct K R0 → ∃ R, tyd t n ns tn ct K [] R := fun R0 h => ⟨R0.map (sbT vrT), (h _).mp ⟨vrT, rfl⟩⟩
  rcases h with ⟨a, rfl⟩ | ⟨a, h⟩
  · rcases g with ⟨b, rfl⟩ | ⟨b, g⟩
    · rfl
    · exact absurd a b
  rcases g with ⟨b, rfl⟩ | ⟨b, g⟩
  · exact absurd b a
  rcases h with ⟨a, rfl⟩ | ⟨a, h⟩
  · rcases g with ⟨b, rfl⟩ | ⟨b, g⟩
    · rfl
    · rw [a] at b; cases b
  rcases g with ⟨b, rfl⟩ | ⟨b, g⟩
  · rw [a] at b; cases b
  rcases h with ⟨a1, rfl⟩ | ⟨a1, R1, p1, q1⟩
  · rcases g with ⟨b1, rfl⟩ | ⟨b1, R2, p2, -⟩
    · rfl
    · rcases a1 with a1 | a1
      · rw [a1] at b1; cases b1
      · obtain ⟨R, hR⟩ := ex R2 p2
        exact absurd hR (a1 R)
  rcases g with ⟨b1, rfl⟩ | ⟨b1, R2, p2, q2⟩
  · rcases b1 with b1 | b1
    · rw [b1] at a1; cases a1
    · obtain ⟨R, hR⟩ := ex R1 p1
      exact absurd hR (b1 R)
  obtain ⟨-, e1, e2⟩ := rows_eq (R1 := R1) (R2 := R2) (fun X => (p1 X).trans (p2 X).symm)
  rcases q1 with ⟨q1, rfl⟩ | ⟨q1, rfl⟩
  · rcases q2 with ⟨q2, rfl⟩ | ⟨q2, rfl⟩
    · rfl
    · exact absurd (lg_map e1 e2 q1) q2
  · rcases q2 with ⟨q2, rfl⟩ | ⟨q2, rfl⟩
    · exact absurd (lg_map e1.symm e2.symm q2) q1
    · rfl
end
