/-! printed by wip/am/mk34.py: the cells that the constructors make; the code by its method -/
def aKdL : List (Nat × Nat) := [(0, 7), (1, 12), (1001, 8000), (2, 5), (1000, 256), (1001, 10240), (1000, 3001), (1000, 3000), (1001, 0), (3, 2), (2, 5), (1000, 256), (1001, 816), (1000, 35), (1000, 34), (1001, 15), (1000, 34), (4, 12), (1000, 17000), (1000, 17000), (1000, 17000), (1000, 17000), (1000, 17000), (1000, 17000), (1000, 17000), (5, 7), (2, 5), (1000, 256), (1001, 2688), (1000, 113), (1000, 112), (1001, 29), (1000, 4480), (1000, 112), (1000, 40), (1000, 40), (6, 7), (1000, 3001), (7, 10), (8, 4), (1000, 500), (1000, 500), (1000, 500), (1000, 3001), (1000, 3001), (9, 8), (1000, 501), (1000, 501), (1000, 501), (1000, 501), (1000, 501), (10, 5), (1000, 500), (1000, 501), (1000, 20000), (1000, 501), (11, 71), (1000, 8000), (1004, 336), (1000, 112), (1000, 29), (1004, 102), (1000, 34), (1004, 55200), (1000, 60000), (1000, 60000), (1000, 60000), (1000, 60000), (1000, 520), (1000, 521), (1000, 20800), (1000, 6002), (1000, 6002), (1000, 6002), (1004, 18006), (1000, 12100), (1000, 12100), (1000, 12100), (1000, 12100), (1000, 12100), (1000, 12100), (1000, 12100), (1000, 30100), (1000, 30100), (1000, 30100), (1000, 30100), (1000, 30100), (1000, 30100), (1000, 6002), (1000, 6002), (1000, 6002), (1000, 6002), (1000, 60000), (1000, 60000), (1000, 48), (1000, 48), (1000, 600), (1000, 600), (1000, 520), (1000, 520), (1000, 60000), (1000, 60000), (1000, 60000), (1000, 60000), (1000, 60000), (1004, 1)]
def aRfL : List (List (Nat × Nat)) := [[(0, 1), (1, 9), (2, 17), (3, 25), (4, 36), (5, 38), (6, 51)], [(0, 2), (1, 3)], [], [(0, 5), (1, 6), (2, 7), (3, 4)], [], [], [], [], [], [(0, 10), (1, 16)], [(0, 12), (1, 13), (2, 14), (3, 11)], [], [], [], [], [], [], [(0, 18), (1, 19), (2, 20), (3, 21), (4, 22), (5, 23), (6, 24)], [], [], [], [], [], [], [], [(0, 26), (1, 32), (2, 33), (3, 34), (4, 35), (5, 9), (6, 17)], [(0, 28), (1, 29), (2, 30), (3, 27)], [], [], [], [], [], [], [], [], [], [(0, 1), (1, 9), (2, 17), (3, 37)], [], [(0, 1), (1, 25), (2, 17), (3, 36), (4, 39), (5, 45), (6, 43), (7, 44)], [(0, 40), (1, 41), (2, 42)], [], [], [], [], [], [(0, 46), (1, 47), (2, 48), (3, 49), (4, 50), (5, 17)], [], [], [], [], [], [(0, 52), (1, 53), (2, 54), (3, 55)], [], [], [], [], [(1, 57), (6, 58), (7, 59), (8, 60), (9, 61), (10, 62), (11, 63), (12, 64), (13, 65), (14, 66), (15, 67), (19, 68), (20, 69), (21, 70), (27, 71), (28, 72), (29, 73), (30, 74), (34, 75), (35, 76), (36, 77), (37, 78), (38, 79), (39, 80), (40, 81), (42, 82), (43, 83), (44, 84), (45, 85), (46, 86), (47, 87), (49, 88), (50, 89), (52, 90), (53, 91), (54, 92), (55, 93), (56, 94), (57, 95), (60, 96), (61, 97), (63, 98), (64, 99), (65, 100), (66, 101), (67, 102), (68, 103), (70, 104)], [], [], [], [], [], [], [], [], [], [], [], [], [], [], [], [], [], [], [], [], [], [], [], [], [], [], [], [], [], [], [], [], [], [], [], [], [], [], [], [], [], [], [], [], [], [], [], [], []]
def aKd (k : Nat) : Nat × Nat := aKdL.getD k (0, 0)
def aRf (k j : Nat) : Option Nat := (aRfL.getD k []).lookup j
def a_Can (B : aH) : Prop := 106 ≤ B.1 ∧ (∀ k, k < 106 → B.2.2.1 k = aKd k) ∧ (∀ k j v, aRf k j = some v → B.2.2.2.2.2 k j = some v)
theorem r0 {B : aH} (hB : a_Can B) : a_Arr B 0 0 7 := ⟨Nat.lt_of_lt_of_le (by decide) hB.1, hB.2.1 0 (by decide)⟩
theorem r1 {B : aH} (hB : a_Can B) : a_Arr B 1 1 12 := ⟨Nat.lt_of_lt_of_le (by decide) hB.1, hB.2.1 1 (by decide)⟩
theorem r2 {B : aH} (hB : a_Can B) : a_Arr B 2 1001 8000 := ⟨Nat.lt_of_lt_of_le (by decide) hB.1, hB.2.1 2 (by decide)⟩
theorem r3 {B : aH} (hB : a_Can B) : a_Arr B 3 2 5 := ⟨Nat.lt_of_lt_of_le (by decide) hB.1, hB.2.1 3 (by decide)⟩
theorem r4 {B : aH} (hB : a_Can B) : a_Arr B 4 1000 256 := ⟨Nat.lt_of_lt_of_le (by decide) hB.1, hB.2.1 4 (by decide)⟩
theorem r5 {B : aH} (hB : a_Can B) : a_Arr B 5 1001 10240 := ⟨Nat.lt_of_lt_of_le (by decide) hB.1, hB.2.1 5 (by decide)⟩
theorem r6 {B : aH} (hB : a_Can B) : a_Arr B 6 1000 3001 := ⟨Nat.lt_of_lt_of_le (by decide) hB.1, hB.2.1 6 (by decide)⟩
theorem r7 {B : aH} (hB : a_Can B) : a_Arr B 7 1000 3000 := ⟨Nat.lt_of_lt_of_le (by decide) hB.1, hB.2.1 7 (by decide)⟩
theorem r8 {B : aH} (hB : a_Can B) : a_Arr B 8 1001 0 := ⟨Nat.lt_of_lt_of_le (by decide) hB.1, hB.2.1 8 (by decide)⟩
theorem r9 {B : aH} (hB : a_Can B) : a_Arr B 9 3 2 := ⟨Nat.lt_of_lt_of_le (by decide) hB.1, hB.2.1 9 (by decide)⟩
theorem r10 {B : aH} (hB : a_Can B) : a_Arr B 10 2 5 := ⟨Nat.lt_of_lt_of_le (by decide) hB.1, hB.2.1 10 (by decide)⟩
theorem r11 {B : aH} (hB : a_Can B) : a_Arr B 11 1000 256 := ⟨Nat.lt_of_lt_of_le (by decide) hB.1, hB.2.1 11 (by decide)⟩
theorem r12 {B : aH} (hB : a_Can B) : a_Arr B 12 1001 816 := ⟨Nat.lt_of_lt_of_le (by decide) hB.1, hB.2.1 12 (by decide)⟩
theorem r13 {B : aH} (hB : a_Can B) : a_Arr B 13 1000 35 := ⟨Nat.lt_of_lt_of_le (by decide) hB.1, hB.2.1 13 (by decide)⟩
theorem r14 {B : aH} (hB : a_Can B) : a_Arr B 14 1000 34 := ⟨Nat.lt_of_lt_of_le (by decide) hB.1, hB.2.1 14 (by decide)⟩
theorem r15 {B : aH} (hB : a_Can B) : a_Arr B 15 1001 15 := ⟨Nat.lt_of_lt_of_le (by decide) hB.1, hB.2.1 15 (by decide)⟩
theorem r16 {B : aH} (hB : a_Can B) : a_Arr B 16 1000 34 := ⟨Nat.lt_of_lt_of_le (by decide) hB.1, hB.2.1 16 (by decide)⟩
theorem r17 {B : aH} (hB : a_Can B) : a_Arr B 17 4 12 := ⟨Nat.lt_of_lt_of_le (by decide) hB.1, hB.2.1 17 (by decide)⟩
theorem r18 {B : aH} (hB : a_Can B) : a_Arr B 18 1000 17000 := ⟨Nat.lt_of_lt_of_le (by decide) hB.1, hB.2.1 18 (by decide)⟩
theorem r19 {B : aH} (hB : a_Can B) : a_Arr B 19 1000 17000 := ⟨Nat.lt_of_lt_of_le (by decide) hB.1, hB.2.1 19 (by decide)⟩
theorem r20 {B : aH} (hB : a_Can B) : a_Arr B 20 1000 17000 := ⟨Nat.lt_of_lt_of_le (by decide) hB.1, hB.2.1 20 (by decide)⟩
theorem r21 {B : aH} (hB : a_Can B) : a_Arr B 21 1000 17000 := ⟨Nat.lt_of_lt_of_le (by decide) hB.1, hB.2.1 21 (by decide)⟩
theorem r22 {B : aH} (hB : a_Can B) : a_Arr B 22 1000 17000 := ⟨Nat.lt_of_lt_of_le (by decide) hB.1, hB.2.1 22 (by decide)⟩
theorem r23 {B : aH} (hB : a_Can B) : a_Arr B 23 1000 17000 := ⟨Nat.lt_of_lt_of_le (by decide) hB.1, hB.2.1 23 (by decide)⟩
theorem r24 {B : aH} (hB : a_Can B) : a_Arr B 24 1000 17000 := ⟨Nat.lt_of_lt_of_le (by decide) hB.1, hB.2.1 24 (by decide)⟩
theorem r25 {B : aH} (hB : a_Can B) : a_Arr B 25 5 7 := ⟨Nat.lt_of_lt_of_le (by decide) hB.1, hB.2.1 25 (by decide)⟩
theorem r26 {B : aH} (hB : a_Can B) : a_Arr B 26 2 5 := ⟨Nat.lt_of_lt_of_le (by decide) hB.1, hB.2.1 26 (by decide)⟩
theorem r27 {B : aH} (hB : a_Can B) : a_Arr B 27 1000 256 := ⟨Nat.lt_of_lt_of_le (by decide) hB.1, hB.2.1 27 (by decide)⟩
theorem r28 {B : aH} (hB : a_Can B) : a_Arr B 28 1001 2688 := ⟨Nat.lt_of_lt_of_le (by decide) hB.1, hB.2.1 28 (by decide)⟩
theorem r29 {B : aH} (hB : a_Can B) : a_Arr B 29 1000 113 := ⟨Nat.lt_of_lt_of_le (by decide) hB.1, hB.2.1 29 (by decide)⟩
theorem r30 {B : aH} (hB : a_Can B) : a_Arr B 30 1000 112 := ⟨Nat.lt_of_lt_of_le (by decide) hB.1, hB.2.1 30 (by decide)⟩
theorem r31 {B : aH} (hB : a_Can B) : a_Arr B 31 1001 29 := ⟨Nat.lt_of_lt_of_le (by decide) hB.1, hB.2.1 31 (by decide)⟩
theorem r32 {B : aH} (hB : a_Can B) : a_Arr B 32 1000 4480 := ⟨Nat.lt_of_lt_of_le (by decide) hB.1, hB.2.1 32 (by decide)⟩
theorem r33 {B : aH} (hB : a_Can B) : a_Arr B 33 1000 112 := ⟨Nat.lt_of_lt_of_le (by decide) hB.1, hB.2.1 33 (by decide)⟩
theorem r34 {B : aH} (hB : a_Can B) : a_Arr B 34 1000 40 := ⟨Nat.lt_of_lt_of_le (by decide) hB.1, hB.2.1 34 (by decide)⟩
theorem r35 {B : aH} (hB : a_Can B) : a_Arr B 35 1000 40 := ⟨Nat.lt_of_lt_of_le (by decide) hB.1, hB.2.1 35 (by decide)⟩
theorem r36 {B : aH} (hB : a_Can B) : a_Arr B 36 6 7 := ⟨Nat.lt_of_lt_of_le (by decide) hB.1, hB.2.1 36 (by decide)⟩
theorem r37 {B : aH} (hB : a_Can B) : a_Arr B 37 1000 3001 := ⟨Nat.lt_of_lt_of_le (by decide) hB.1, hB.2.1 37 (by decide)⟩
theorem r38 {B : aH} (hB : a_Can B) : a_Arr B 38 7 10 := ⟨Nat.lt_of_lt_of_le (by decide) hB.1, hB.2.1 38 (by decide)⟩
theorem r39 {B : aH} (hB : a_Can B) : a_Arr B 39 8 4 := ⟨Nat.lt_of_lt_of_le (by decide) hB.1, hB.2.1 39 (by decide)⟩
theorem r40 {B : aH} (hB : a_Can B) : a_Arr B 40 1000 500 := ⟨Nat.lt_of_lt_of_le (by decide) hB.1, hB.2.1 40 (by decide)⟩
theorem r41 {B : aH} (hB : a_Can B) : a_Arr B 41 1000 500 := ⟨Nat.lt_of_lt_of_le (by decide) hB.1, hB.2.1 41 (by decide)⟩
theorem r42 {B : aH} (hB : a_Can B) : a_Arr B 42 1000 500 := ⟨Nat.lt_of_lt_of_le (by decide) hB.1, hB.2.1 42 (by decide)⟩
theorem r43 {B : aH} (hB : a_Can B) : a_Arr B 43 1000 3001 := ⟨Nat.lt_of_lt_of_le (by decide) hB.1, hB.2.1 43 (by decide)⟩
theorem r44 {B : aH} (hB : a_Can B) : a_Arr B 44 1000 3001 := ⟨Nat.lt_of_lt_of_le (by decide) hB.1, hB.2.1 44 (by decide)⟩
theorem r45 {B : aH} (hB : a_Can B) : a_Arr B 45 9 8 := ⟨Nat.lt_of_lt_of_le (by decide) hB.1, hB.2.1 45 (by decide)⟩
theorem r46 {B : aH} (hB : a_Can B) : a_Arr B 46 1000 501 := ⟨Nat.lt_of_lt_of_le (by decide) hB.1, hB.2.1 46 (by decide)⟩
theorem r47 {B : aH} (hB : a_Can B) : a_Arr B 47 1000 501 := ⟨Nat.lt_of_lt_of_le (by decide) hB.1, hB.2.1 47 (by decide)⟩
theorem r48 {B : aH} (hB : a_Can B) : a_Arr B 48 1000 501 := ⟨Nat.lt_of_lt_of_le (by decide) hB.1, hB.2.1 48 (by decide)⟩
theorem r49 {B : aH} (hB : a_Can B) : a_Arr B 49 1000 501 := ⟨Nat.lt_of_lt_of_le (by decide) hB.1, hB.2.1 49 (by decide)⟩
theorem r50 {B : aH} (hB : a_Can B) : a_Arr B 50 1000 501 := ⟨Nat.lt_of_lt_of_le (by decide) hB.1, hB.2.1 50 (by decide)⟩
theorem r51 {B : aH} (hB : a_Can B) : a_Arr B 51 10 5 := ⟨Nat.lt_of_lt_of_le (by decide) hB.1, hB.2.1 51 (by decide)⟩
theorem r52 {B : aH} (hB : a_Can B) : a_Arr B 52 1000 500 := ⟨Nat.lt_of_lt_of_le (by decide) hB.1, hB.2.1 52 (by decide)⟩
theorem r53 {B : aH} (hB : a_Can B) : a_Arr B 53 1000 501 := ⟨Nat.lt_of_lt_of_le (by decide) hB.1, hB.2.1 53 (by decide)⟩
theorem r54 {B : aH} (hB : a_Can B) : a_Arr B 54 1000 20000 := ⟨Nat.lt_of_lt_of_le (by decide) hB.1, hB.2.1 54 (by decide)⟩
theorem r55 {B : aH} (hB : a_Can B) : a_Arr B 55 1000 501 := ⟨Nat.lt_of_lt_of_le (by decide) hB.1, hB.2.1 55 (by decide)⟩
theorem r56 {B : aH} (hB : a_Can B) : a_Arr B 56 11 71 := ⟨Nat.lt_of_lt_of_le (by decide) hB.1, hB.2.1 56 (by decide)⟩
theorem r57 {B : aH} (hB : a_Can B) : a_Arr B 57 1000 8000 := ⟨Nat.lt_of_lt_of_le (by decide) hB.1, hB.2.1 57 (by decide)⟩
theorem r58 {B : aH} (hB : a_Can B) : a_Arr B 58 1004 336 := ⟨Nat.lt_of_lt_of_le (by decide) hB.1, hB.2.1 58 (by decide)⟩
theorem r59 {B : aH} (hB : a_Can B) : a_Arr B 59 1000 112 := ⟨Nat.lt_of_lt_of_le (by decide) hB.1, hB.2.1 59 (by decide)⟩
theorem r60 {B : aH} (hB : a_Can B) : a_Arr B 60 1000 29 := ⟨Nat.lt_of_lt_of_le (by decide) hB.1, hB.2.1 60 (by decide)⟩
theorem r61 {B : aH} (hB : a_Can B) : a_Arr B 61 1004 102 := ⟨Nat.lt_of_lt_of_le (by decide) hB.1, hB.2.1 61 (by decide)⟩
theorem r62 {B : aH} (hB : a_Can B) : a_Arr B 62 1000 34 := ⟨Nat.lt_of_lt_of_le (by decide) hB.1, hB.2.1 62 (by decide)⟩
theorem r63 {B : aH} (hB : a_Can B) : a_Arr B 63 1004 55200 := ⟨Nat.lt_of_lt_of_le (by decide) hB.1, hB.2.1 63 (by decide)⟩
theorem r64 {B : aH} (hB : a_Can B) : a_Arr B 64 1000 60000 := ⟨Nat.lt_of_lt_of_le (by decide) hB.1, hB.2.1 64 (by decide)⟩
theorem r65 {B : aH} (hB : a_Can B) : a_Arr B 65 1000 60000 := ⟨Nat.lt_of_lt_of_le (by decide) hB.1, hB.2.1 65 (by decide)⟩
theorem r66 {B : aH} (hB : a_Can B) : a_Arr B 66 1000 60000 := ⟨Nat.lt_of_lt_of_le (by decide) hB.1, hB.2.1 66 (by decide)⟩
theorem r67 {B : aH} (hB : a_Can B) : a_Arr B 67 1000 60000 := ⟨Nat.lt_of_lt_of_le (by decide) hB.1, hB.2.1 67 (by decide)⟩
theorem r68 {B : aH} (hB : a_Can B) : a_Arr B 68 1000 520 := ⟨Nat.lt_of_lt_of_le (by decide) hB.1, hB.2.1 68 (by decide)⟩
theorem r69 {B : aH} (hB : a_Can B) : a_Arr B 69 1000 521 := ⟨Nat.lt_of_lt_of_le (by decide) hB.1, hB.2.1 69 (by decide)⟩
theorem r70 {B : aH} (hB : a_Can B) : a_Arr B 70 1000 20800 := ⟨Nat.lt_of_lt_of_le (by decide) hB.1, hB.2.1 70 (by decide)⟩
theorem r71 {B : aH} (hB : a_Can B) : a_Arr B 71 1000 6002 := ⟨Nat.lt_of_lt_of_le (by decide) hB.1, hB.2.1 71 (by decide)⟩
theorem r72 {B : aH} (hB : a_Can B) : a_Arr B 72 1000 6002 := ⟨Nat.lt_of_lt_of_le (by decide) hB.1, hB.2.1 72 (by decide)⟩
theorem r73 {B : aH} (hB : a_Can B) : a_Arr B 73 1000 6002 := ⟨Nat.lt_of_lt_of_le (by decide) hB.1, hB.2.1 73 (by decide)⟩
theorem r74 {B : aH} (hB : a_Can B) : a_Arr B 74 1004 18006 := ⟨Nat.lt_of_lt_of_le (by decide) hB.1, hB.2.1 74 (by decide)⟩
theorem r75 {B : aH} (hB : a_Can B) : a_Arr B 75 1000 12100 := ⟨Nat.lt_of_lt_of_le (by decide) hB.1, hB.2.1 75 (by decide)⟩
theorem r76 {B : aH} (hB : a_Can B) : a_Arr B 76 1000 12100 := ⟨Nat.lt_of_lt_of_le (by decide) hB.1, hB.2.1 76 (by decide)⟩
theorem r77 {B : aH} (hB : a_Can B) : a_Arr B 77 1000 12100 := ⟨Nat.lt_of_lt_of_le (by decide) hB.1, hB.2.1 77 (by decide)⟩
theorem r78 {B : aH} (hB : a_Can B) : a_Arr B 78 1000 12100 := ⟨Nat.lt_of_lt_of_le (by decide) hB.1, hB.2.1 78 (by decide)⟩
theorem r79 {B : aH} (hB : a_Can B) : a_Arr B 79 1000 12100 := ⟨Nat.lt_of_lt_of_le (by decide) hB.1, hB.2.1 79 (by decide)⟩
theorem r80 {B : aH} (hB : a_Can B) : a_Arr B 80 1000 12100 := ⟨Nat.lt_of_lt_of_le (by decide) hB.1, hB.2.1 80 (by decide)⟩
theorem r81 {B : aH} (hB : a_Can B) : a_Arr B 81 1000 12100 := ⟨Nat.lt_of_lt_of_le (by decide) hB.1, hB.2.1 81 (by decide)⟩
theorem r82 {B : aH} (hB : a_Can B) : a_Arr B 82 1000 30100 := ⟨Nat.lt_of_lt_of_le (by decide) hB.1, hB.2.1 82 (by decide)⟩
theorem r83 {B : aH} (hB : a_Can B) : a_Arr B 83 1000 30100 := ⟨Nat.lt_of_lt_of_le (by decide) hB.1, hB.2.1 83 (by decide)⟩
theorem r84 {B : aH} (hB : a_Can B) : a_Arr B 84 1000 30100 := ⟨Nat.lt_of_lt_of_le (by decide) hB.1, hB.2.1 84 (by decide)⟩
theorem r85 {B : aH} (hB : a_Can B) : a_Arr B 85 1000 30100 := ⟨Nat.lt_of_lt_of_le (by decide) hB.1, hB.2.1 85 (by decide)⟩
theorem r86 {B : aH} (hB : a_Can B) : a_Arr B 86 1000 30100 := ⟨Nat.lt_of_lt_of_le (by decide) hB.1, hB.2.1 86 (by decide)⟩
theorem r87 {B : aH} (hB : a_Can B) : a_Arr B 87 1000 30100 := ⟨Nat.lt_of_lt_of_le (by decide) hB.1, hB.2.1 87 (by decide)⟩
theorem r88 {B : aH} (hB : a_Can B) : a_Arr B 88 1000 6002 := ⟨Nat.lt_of_lt_of_le (by decide) hB.1, hB.2.1 88 (by decide)⟩
theorem r89 {B : aH} (hB : a_Can B) : a_Arr B 89 1000 6002 := ⟨Nat.lt_of_lt_of_le (by decide) hB.1, hB.2.1 89 (by decide)⟩
theorem r90 {B : aH} (hB : a_Can B) : a_Arr B 90 1000 6002 := ⟨Nat.lt_of_lt_of_le (by decide) hB.1, hB.2.1 90 (by decide)⟩
theorem r91 {B : aH} (hB : a_Can B) : a_Arr B 91 1000 6002 := ⟨Nat.lt_of_lt_of_le (by decide) hB.1, hB.2.1 91 (by decide)⟩
theorem r92 {B : aH} (hB : a_Can B) : a_Arr B 92 1000 60000 := ⟨Nat.lt_of_lt_of_le (by decide) hB.1, hB.2.1 92 (by decide)⟩
theorem r93 {B : aH} (hB : a_Can B) : a_Arr B 93 1000 60000 := ⟨Nat.lt_of_lt_of_le (by decide) hB.1, hB.2.1 93 (by decide)⟩
theorem r94 {B : aH} (hB : a_Can B) : a_Arr B 94 1000 48 := ⟨Nat.lt_of_lt_of_le (by decide) hB.1, hB.2.1 94 (by decide)⟩
theorem r95 {B : aH} (hB : a_Can B) : a_Arr B 95 1000 48 := ⟨Nat.lt_of_lt_of_le (by decide) hB.1, hB.2.1 95 (by decide)⟩
theorem r96 {B : aH} (hB : a_Can B) : a_Arr B 96 1000 600 := ⟨Nat.lt_of_lt_of_le (by decide) hB.1, hB.2.1 96 (by decide)⟩
theorem r97 {B : aH} (hB : a_Can B) : a_Arr B 97 1000 600 := ⟨Nat.lt_of_lt_of_le (by decide) hB.1, hB.2.1 97 (by decide)⟩
theorem r98 {B : aH} (hB : a_Can B) : a_Arr B 98 1000 520 := ⟨Nat.lt_of_lt_of_le (by decide) hB.1, hB.2.1 98 (by decide)⟩
theorem r99 {B : aH} (hB : a_Can B) : a_Arr B 99 1000 520 := ⟨Nat.lt_of_lt_of_le (by decide) hB.1, hB.2.1 99 (by decide)⟩
theorem r100 {B : aH} (hB : a_Can B) : a_Arr B 100 1000 60000 := ⟨Nat.lt_of_lt_of_le (by decide) hB.1, hB.2.1 100 (by decide)⟩
theorem r101 {B : aH} (hB : a_Can B) : a_Arr B 101 1000 60000 := ⟨Nat.lt_of_lt_of_le (by decide) hB.1, hB.2.1 101 (by decide)⟩
theorem r102 {B : aH} (hB : a_Can B) : a_Arr B 102 1000 60000 := ⟨Nat.lt_of_lt_of_le (by decide) hB.1, hB.2.1 102 (by decide)⟩
theorem r103 {B : aH} (hB : a_Can B) : a_Arr B 103 1000 60000 := ⟨Nat.lt_of_lt_of_le (by decide) hB.1, hB.2.1 103 (by decide)⟩
theorem r104 {B : aH} (hB : a_Can B) : a_Arr B 104 1000 60000 := ⟨Nat.lt_of_lt_of_le (by decide) hB.1, hB.2.1 104 (by decide)⟩
theorem r105 {B : aH} (hB : a_Can B) : a_Arr B 105 1004 1 := ⟨Nat.lt_of_lt_of_le (by decide) hB.1, hB.2.1 105 (by decide)⟩
theorem f0_0 {B : aH} (hB : a_Can B) : B.2.2.2.2.2 0 0 = some 1 := hB.2.2 0 0 _ rfl
theorem f0_1 {B : aH} (hB : a_Can B) : B.2.2.2.2.2 0 1 = some 9 := hB.2.2 0 1 _ rfl
theorem f0_2 {B : aH} (hB : a_Can B) : B.2.2.2.2.2 0 2 = some 17 := hB.2.2 0 2 _ rfl
theorem f0_3 {B : aH} (hB : a_Can B) : B.2.2.2.2.2 0 3 = some 25 := hB.2.2 0 3 _ rfl
theorem f0_4 {B : aH} (hB : a_Can B) : B.2.2.2.2.2 0 4 = some 36 := hB.2.2 0 4 _ rfl
theorem f0_5 {B : aH} (hB : a_Can B) : B.2.2.2.2.2 0 5 = some 38 := hB.2.2 0 5 _ rfl
theorem f0_6 {B : aH} (hB : a_Can B) : B.2.2.2.2.2 0 6 = some 51 := hB.2.2 0 6 _ rfl
theorem f1_0 {B : aH} (hB : a_Can B) : B.2.2.2.2.2 1 0 = some 2 := hB.2.2 1 0 _ rfl
theorem f1_1 {B : aH} (hB : a_Can B) : B.2.2.2.2.2 1 1 = some 3 := hB.2.2 1 1 _ rfl
theorem f3_0 {B : aH} (hB : a_Can B) : B.2.2.2.2.2 3 0 = some 5 := hB.2.2 3 0 _ rfl
theorem f3_1 {B : aH} (hB : a_Can B) : B.2.2.2.2.2 3 1 = some 6 := hB.2.2 3 1 _ rfl
theorem f3_2 {B : aH} (hB : a_Can B) : B.2.2.2.2.2 3 2 = some 7 := hB.2.2 3 2 _ rfl
theorem f3_3 {B : aH} (hB : a_Can B) : B.2.2.2.2.2 3 3 = some 4 := hB.2.2 3 3 _ rfl
theorem f9_0 {B : aH} (hB : a_Can B) : B.2.2.2.2.2 9 0 = some 10 := hB.2.2 9 0 _ rfl
theorem f9_1 {B : aH} (hB : a_Can B) : B.2.2.2.2.2 9 1 = some 16 := hB.2.2 9 1 _ rfl
theorem f10_0 {B : aH} (hB : a_Can B) : B.2.2.2.2.2 10 0 = some 12 := hB.2.2 10 0 _ rfl
theorem f10_1 {B : aH} (hB : a_Can B) : B.2.2.2.2.2 10 1 = some 13 := hB.2.2 10 1 _ rfl
theorem f10_2 {B : aH} (hB : a_Can B) : B.2.2.2.2.2 10 2 = some 14 := hB.2.2 10 2 _ rfl
theorem f10_3 {B : aH} (hB : a_Can B) : B.2.2.2.2.2 10 3 = some 11 := hB.2.2 10 3 _ rfl
theorem f17_0 {B : aH} (hB : a_Can B) : B.2.2.2.2.2 17 0 = some 18 := hB.2.2 17 0 _ rfl
theorem f17_1 {B : aH} (hB : a_Can B) : B.2.2.2.2.2 17 1 = some 19 := hB.2.2 17 1 _ rfl
theorem f17_2 {B : aH} (hB : a_Can B) : B.2.2.2.2.2 17 2 = some 20 := hB.2.2 17 2 _ rfl
theorem f17_3 {B : aH} (hB : a_Can B) : B.2.2.2.2.2 17 3 = some 21 := hB.2.2 17 3 _ rfl
theorem f17_4 {B : aH} (hB : a_Can B) : B.2.2.2.2.2 17 4 = some 22 := hB.2.2 17 4 _ rfl
theorem f17_5 {B : aH} (hB : a_Can B) : B.2.2.2.2.2 17 5 = some 23 := hB.2.2 17 5 _ rfl
theorem f17_6 {B : aH} (hB : a_Can B) : B.2.2.2.2.2 17 6 = some 24 := hB.2.2 17 6 _ rfl
theorem f25_0 {B : aH} (hB : a_Can B) : B.2.2.2.2.2 25 0 = some 26 := hB.2.2 25 0 _ rfl
theorem f25_1 {B : aH} (hB : a_Can B) : B.2.2.2.2.2 25 1 = some 32 := hB.2.2 25 1 _ rfl
theorem f25_2 {B : aH} (hB : a_Can B) : B.2.2.2.2.2 25 2 = some 33 := hB.2.2 25 2 _ rfl
theorem f25_3 {B : aH} (hB : a_Can B) : B.2.2.2.2.2 25 3 = some 34 := hB.2.2 25 3 _ rfl
theorem f25_4 {B : aH} (hB : a_Can B) : B.2.2.2.2.2 25 4 = some 35 := hB.2.2 25 4 _ rfl
theorem f25_5 {B : aH} (hB : a_Can B) : B.2.2.2.2.2 25 5 = some 9 := hB.2.2 25 5 _ rfl
theorem f25_6 {B : aH} (hB : a_Can B) : B.2.2.2.2.2 25 6 = some 17 := hB.2.2 25 6 _ rfl
theorem f26_0 {B : aH} (hB : a_Can B) : B.2.2.2.2.2 26 0 = some 28 := hB.2.2 26 0 _ rfl
theorem f26_1 {B : aH} (hB : a_Can B) : B.2.2.2.2.2 26 1 = some 29 := hB.2.2 26 1 _ rfl
theorem f26_2 {B : aH} (hB : a_Can B) : B.2.2.2.2.2 26 2 = some 30 := hB.2.2 26 2 _ rfl
theorem f26_3 {B : aH} (hB : a_Can B) : B.2.2.2.2.2 26 3 = some 27 := hB.2.2 26 3 _ rfl
theorem f36_0 {B : aH} (hB : a_Can B) : B.2.2.2.2.2 36 0 = some 1 := hB.2.2 36 0 _ rfl
theorem f36_1 {B : aH} (hB : a_Can B) : B.2.2.2.2.2 36 1 = some 9 := hB.2.2 36 1 _ rfl
theorem f36_2 {B : aH} (hB : a_Can B) : B.2.2.2.2.2 36 2 = some 17 := hB.2.2 36 2 _ rfl
theorem f36_3 {B : aH} (hB : a_Can B) : B.2.2.2.2.2 36 3 = some 37 := hB.2.2 36 3 _ rfl
theorem f38_0 {B : aH} (hB : a_Can B) : B.2.2.2.2.2 38 0 = some 1 := hB.2.2 38 0 _ rfl
theorem f38_1 {B : aH} (hB : a_Can B) : B.2.2.2.2.2 38 1 = some 25 := hB.2.2 38 1 _ rfl
theorem f38_2 {B : aH} (hB : a_Can B) : B.2.2.2.2.2 38 2 = some 17 := hB.2.2 38 2 _ rfl
theorem f38_3 {B : aH} (hB : a_Can B) : B.2.2.2.2.2 38 3 = some 36 := hB.2.2 38 3 _ rfl
theorem f38_4 {B : aH} (hB : a_Can B) : B.2.2.2.2.2 38 4 = some 39 := hB.2.2 38 4 _ rfl
theorem f38_5 {B : aH} (hB : a_Can B) : B.2.2.2.2.2 38 5 = some 45 := hB.2.2 38 5 _ rfl
theorem f38_6 {B : aH} (hB : a_Can B) : B.2.2.2.2.2 38 6 = some 43 := hB.2.2 38 6 _ rfl
theorem f38_7 {B : aH} (hB : a_Can B) : B.2.2.2.2.2 38 7 = some 44 := hB.2.2 38 7 _ rfl
theorem f39_0 {B : aH} (hB : a_Can B) : B.2.2.2.2.2 39 0 = some 40 := hB.2.2 39 0 _ rfl
theorem f39_1 {B : aH} (hB : a_Can B) : B.2.2.2.2.2 39 1 = some 41 := hB.2.2 39 1 _ rfl
theorem f39_2 {B : aH} (hB : a_Can B) : B.2.2.2.2.2 39 2 = some 42 := hB.2.2 39 2 _ rfl
theorem f45_0 {B : aH} (hB : a_Can B) : B.2.2.2.2.2 45 0 = some 46 := hB.2.2 45 0 _ rfl
theorem f45_1 {B : aH} (hB : a_Can B) : B.2.2.2.2.2 45 1 = some 47 := hB.2.2 45 1 _ rfl
theorem f45_2 {B : aH} (hB : a_Can B) : B.2.2.2.2.2 45 2 = some 48 := hB.2.2 45 2 _ rfl
theorem f45_3 {B : aH} (hB : a_Can B) : B.2.2.2.2.2 45 3 = some 49 := hB.2.2 45 3 _ rfl
theorem f45_4 {B : aH} (hB : a_Can B) : B.2.2.2.2.2 45 4 = some 50 := hB.2.2 45 4 _ rfl
theorem f45_5 {B : aH} (hB : a_Can B) : B.2.2.2.2.2 45 5 = some 17 := hB.2.2 45 5 _ rfl
theorem f51_0 {B : aH} (hB : a_Can B) : B.2.2.2.2.2 51 0 = some 52 := hB.2.2 51 0 _ rfl
theorem f51_1 {B : aH} (hB : a_Can B) : B.2.2.2.2.2 51 1 = some 53 := hB.2.2 51 1 _ rfl
theorem f51_2 {B : aH} (hB : a_Can B) : B.2.2.2.2.2 51 2 = some 54 := hB.2.2 51 2 _ rfl
theorem f51_3 {B : aH} (hB : a_Can B) : B.2.2.2.2.2 51 3 = some 55 := hB.2.2 51 3 _ rfl
theorem f56_1 {B : aH} (hB : a_Can B) : B.2.2.2.2.2 56 1 = some 57 := hB.2.2 56 1 _ rfl
theorem f56_6 {B : aH} (hB : a_Can B) : B.2.2.2.2.2 56 6 = some 58 := hB.2.2 56 6 _ rfl
theorem f56_7 {B : aH} (hB : a_Can B) : B.2.2.2.2.2 56 7 = some 59 := hB.2.2 56 7 _ rfl
theorem f56_8 {B : aH} (hB : a_Can B) : B.2.2.2.2.2 56 8 = some 60 := hB.2.2 56 8 _ rfl
theorem f56_9 {B : aH} (hB : a_Can B) : B.2.2.2.2.2 56 9 = some 61 := hB.2.2 56 9 _ rfl
theorem f56_10 {B : aH} (hB : a_Can B) : B.2.2.2.2.2 56 10 = some 62 := hB.2.2 56 10 _ rfl
theorem f56_11 {B : aH} (hB : a_Can B) : B.2.2.2.2.2 56 11 = some 63 := hB.2.2 56 11 _ rfl
theorem f56_12 {B : aH} (hB : a_Can B) : B.2.2.2.2.2 56 12 = some 64 := hB.2.2 56 12 _ rfl
theorem f56_13 {B : aH} (hB : a_Can B) : B.2.2.2.2.2 56 13 = some 65 := hB.2.2 56 13 _ rfl
theorem f56_14 {B : aH} (hB : a_Can B) : B.2.2.2.2.2 56 14 = some 66 := hB.2.2 56 14 _ rfl
theorem f56_15 {B : aH} (hB : a_Can B) : B.2.2.2.2.2 56 15 = some 67 := hB.2.2 56 15 _ rfl
theorem f56_19 {B : aH} (hB : a_Can B) : B.2.2.2.2.2 56 19 = some 68 := hB.2.2 56 19 _ rfl
theorem f56_20 {B : aH} (hB : a_Can B) : B.2.2.2.2.2 56 20 = some 69 := hB.2.2 56 20 _ rfl
theorem f56_21 {B : aH} (hB : a_Can B) : B.2.2.2.2.2 56 21 = some 70 := hB.2.2 56 21 _ rfl
theorem f56_27 {B : aH} (hB : a_Can B) : B.2.2.2.2.2 56 27 = some 71 := hB.2.2 56 27 _ rfl
theorem f56_28 {B : aH} (hB : a_Can B) : B.2.2.2.2.2 56 28 = some 72 := hB.2.2 56 28 _ rfl
theorem f56_29 {B : aH} (hB : a_Can B) : B.2.2.2.2.2 56 29 = some 73 := hB.2.2 56 29 _ rfl
theorem f56_30 {B : aH} (hB : a_Can B) : B.2.2.2.2.2 56 30 = some 74 := hB.2.2 56 30 _ rfl
theorem f56_34 {B : aH} (hB : a_Can B) : B.2.2.2.2.2 56 34 = some 75 := hB.2.2 56 34 _ rfl
theorem f56_35 {B : aH} (hB : a_Can B) : B.2.2.2.2.2 56 35 = some 76 := hB.2.2 56 35 _ rfl
theorem f56_36 {B : aH} (hB : a_Can B) : B.2.2.2.2.2 56 36 = some 77 := hB.2.2 56 36 _ rfl
theorem f56_37 {B : aH} (hB : a_Can B) : B.2.2.2.2.2 56 37 = some 78 := hB.2.2 56 37 _ rfl
theorem f56_38 {B : aH} (hB : a_Can B) : B.2.2.2.2.2 56 38 = some 79 := hB.2.2 56 38 _ rfl
theorem f56_39 {B : aH} (hB : a_Can B) : B.2.2.2.2.2 56 39 = some 80 := hB.2.2 56 39 _ rfl
theorem f56_40 {B : aH} (hB : a_Can B) : B.2.2.2.2.2 56 40 = some 81 := hB.2.2 56 40 _ rfl
theorem f56_42 {B : aH} (hB : a_Can B) : B.2.2.2.2.2 56 42 = some 82 := hB.2.2 56 42 _ rfl
theorem f56_43 {B : aH} (hB : a_Can B) : B.2.2.2.2.2 56 43 = some 83 := hB.2.2 56 43 _ rfl
theorem f56_44 {B : aH} (hB : a_Can B) : B.2.2.2.2.2 56 44 = some 84 := hB.2.2 56 44 _ rfl
theorem f56_45 {B : aH} (hB : a_Can B) : B.2.2.2.2.2 56 45 = some 85 := hB.2.2 56 45 _ rfl
theorem f56_46 {B : aH} (hB : a_Can B) : B.2.2.2.2.2 56 46 = some 86 := hB.2.2 56 46 _ rfl
theorem f56_47 {B : aH} (hB : a_Can B) : B.2.2.2.2.2 56 47 = some 87 := hB.2.2 56 47 _ rfl
theorem f56_49 {B : aH} (hB : a_Can B) : B.2.2.2.2.2 56 49 = some 88 := hB.2.2 56 49 _ rfl
theorem f56_50 {B : aH} (hB : a_Can B) : B.2.2.2.2.2 56 50 = some 89 := hB.2.2 56 50 _ rfl
theorem f56_52 {B : aH} (hB : a_Can B) : B.2.2.2.2.2 56 52 = some 90 := hB.2.2 56 52 _ rfl
theorem f56_53 {B : aH} (hB : a_Can B) : B.2.2.2.2.2 56 53 = some 91 := hB.2.2 56 53 _ rfl
theorem f56_54 {B : aH} (hB : a_Can B) : B.2.2.2.2.2 56 54 = some 92 := hB.2.2 56 54 _ rfl
theorem f56_55 {B : aH} (hB : a_Can B) : B.2.2.2.2.2 56 55 = some 93 := hB.2.2 56 55 _ rfl
theorem f56_56 {B : aH} (hB : a_Can B) : B.2.2.2.2.2 56 56 = some 94 := hB.2.2 56 56 _ rfl
theorem f56_57 {B : aH} (hB : a_Can B) : B.2.2.2.2.2 56 57 = some 95 := hB.2.2 56 57 _ rfl
theorem f56_60 {B : aH} (hB : a_Can B) : B.2.2.2.2.2 56 60 = some 96 := hB.2.2 56 60 _ rfl
theorem f56_61 {B : aH} (hB : a_Can B) : B.2.2.2.2.2 56 61 = some 97 := hB.2.2 56 61 _ rfl
theorem f56_63 {B : aH} (hB : a_Can B) : B.2.2.2.2.2 56 63 = some 98 := hB.2.2 56 63 _ rfl
theorem f56_64 {B : aH} (hB : a_Can B) : B.2.2.2.2.2 56 64 = some 99 := hB.2.2 56 64 _ rfl
theorem f56_65 {B : aH} (hB : a_Can B) : B.2.2.2.2.2 56 65 = some 100 := hB.2.2 56 65 _ rfl
theorem f56_66 {B : aH} (hB : a_Can B) : B.2.2.2.2.2 56 66 = some 101 := hB.2.2 56 66 _ rfl
theorem f56_67 {B : aH} (hB : a_Can B) : B.2.2.2.2.2 56 67 = some 102 := hB.2.2 56 67 _ rfl
theorem f56_68 {B : aH} (hB : a_Can B) : B.2.2.2.2.2 56 68 = some 103 := hB.2.2 56 68 _ rfl
theorem f56_70 {B : aH} (hB : a_Can B) : B.2.2.2.2.2 56 70 = some 104 := hB.2.2 56 70 _ rfl
abbrev me0 : aMe := (x, code, 7, ret, true, 1, 0, false)
theorem m0 : aMeL[0]? = some me0 := rfl
theorem q0 (pc : Nat) : aCode 0 pc = (match aM0[pc]? with | some o => o | none => none) := rfl
abbrev me1 : aMe := (⟨"TypedTermReader", "<init>", "()V"⟩, prog_1_method_1_code, 1, none, false, 1, 0, false)
theorem m1 : aMeL[1]? = some me1 := rfl
theorem q1 (pc : Nat) : aCode 1 pc = (match aM1[pc]? with | some o => o | none => none) := rfl
abbrev me2 : aMe := (⟨"TypedTermReader$Text", "<init>", "()V"⟩, prog_8_method_1_code, 1, none, false, 1, 1, false)
theorem m2 : aMeL[2]? = some me2 := rfl
theorem q2 (pc : Nat) : aCode 2 pc = (match aM2[pc]? with | some o => o | none => none) := rfl
abbrev me3 : aMe := (⟨"TypedTermReader$NameTable", "<init>", "(IILjava/lang/String;)V"⟩, prog_3_method_1_code, 5, none, false, 4, 2, false)
theorem m3 : aMeL[3]? = some me3 := rfl
theorem q3 (pc : Nat) : aCode 3 pc = (match aM3[pc]? with | some o => o | none => none) := rfl
abbrev me4 : aMe := (⟨"TypedTermReader$NameTable", "addWords", "(Ljava/lang/String;)V"⟩, prog_3_method_2_code, 5, none, false, 2, 2, false)
theorem m4 : aMeL[4]? = some me4 := rfl
theorem q4 (pc : Nat) : aCode 4 pc = (match aM4[pc]? with | some o => o | none => none) := rfl
abbrev me5 : aMe := (⟨"TypedTermReader$NameTable", "add", "([BII)I"⟩, prog_3_method_4_code, 6, (some .int), false, 4, 2, false)
theorem m5 : aMeL[5]? = some me5 := rfl
theorem q5 (pc : Nat) : aCode 5 pc = (match aM5[pc]? with | some o => o | none => none) := rfl
abbrev me6 : aMe := (⟨"TypedTermReader$NameTable", "bucketOf", "([BII)I"⟩, prog_3_method_5_code, 5, (some .int), true, 3, 2, false)
theorem m6 : aMeL[6]? = some me6 := rfl
theorem q6 (pc : Nat) : aCode 6 pc = (match aM6[pc]? with | some o => o | none => none) := rfl
abbrev me7 : aMe := (⟨"TypedTermReader$TypeTable", "<init>", "()V"⟩, prog_11_method_1_code, 1, none, false, 1, 3, false)
theorem m7 : aMeL[7]? = some me7 := rfl
theorem q7 (pc : Nat) : aCode 7 pc = (match aM7[pc]? with | some o => o | none => none) := rfl
abbrev me8 : aMe := (⟨"TypedTermReader$TypePool", "<init>", "()V"⟩, prog_9_method_1_code, 1, none, false, 1, 4, false)
theorem m8 : aMeL[8]? = some me8 := rfl
theorem q8 (pc : Nat) : aCode 8 pc = (match aM8[pc]? with | some o => o | none => none) := rfl
abbrev me9 : aMe := (⟨"TypedTermReader$ConstantTable", "<init>", "(LTypedTermReader$TypeTable;LTypedTermReader$TypePool;)V"⟩, prog_2_method_1_code, 7, none, false, 3, 5, false)
theorem m9 : aMeL[9]? = some me9 := rfl
theorem q9 (pc : Nat) : aCode 9 pc = (match aM9[pc]? with | some o => o | none => none) := rfl
abbrev me10 : aMe := (⟨"TypedTermReader$TypeReader", "<init>", "(LTypedTermReader$Text;LTypedTermReader$TypeTable;LTypedTermReader$TypePool;)V"⟩, prog_10_method_1_code, 4, none, false, 4, 6, false)
theorem m10 : aMeL[10]? = some me10 := rfl
theorem q10 (pc : Nat) : aCode 10 pc = (match aM10[pc]? with | some o => o | none => none) := rfl
abbrev me11 : aMe := (⟨"TypedTermReader$TermReader", "<init>", "(LTypedTermReader$Text;LTypedTermReader$ConstantTable;LTypedTermReader$TypePool;LTypedTermReader$TypeReader;)V"⟩, prog_6_method_1_code, 5, none, false, 5, 7, false)
theorem m11 : aMeL[11]? = some me11 := rfl
theorem q11 (pc : Nat) : aCode 11 pc = (match aM11[pc]? with | some o => o | none => none) := rfl
abbrev me12 : aMe := (⟨"TypedTermReader$Scope", "<init>", "()V"⟩, prog_4_method_1_code, 1, none, false, 1, 8, false)
theorem m12 : aMeL[12]? = some me12 := rfl
theorem q12 (pc : Nat) : aCode 12 pc = (match aM12[pc]? with | some o => o | none => none) := rfl
abbrev me13 : aMe := (⟨"TypedTermReader$TermTree", "<init>", "(LTypedTermReader$TypePool;)V"⟩, prog_7_method_1_code, 2, none, false, 2, 9, false)
theorem m13 : aMeL[13]? = some me13 := rfl
theorem q13 (pc : Nat) : aCode 13 pc = (match aM13[pc]? with | some o => o | none => none) := rfl
abbrev me14 : aMe := (⟨"TypedTermReader$ShownTerm", "<init>", "()V"⟩, prog_5_method_1_code, 1, none, false, 1, 10, false)
theorem m14 : aMeL[14]? = some me14 := rfl
theorem q14 (pc : Nat) : aCode 14 pc = (match aM14[pc]? with | some o => o | none => none) := rfl
abbrev me15 : aMe := (⟨"TypedTermReader", "feed", "(IIIII)Z"⟩, prog_1_method_2_code, 6, (some .boolean), false, 6, 0, false)
theorem m15 : aMeL[15]? = some me15 := rfl
theorem q15 (pc : Nat) : aCode 15 pc = (match aM15[pc]? with | some o => o | none => none) := rfl
abbrev me16 : aMe := (⟨"TypedTermReader$Text", "isFull", "()Z"⟩, prog_8_method_2_code, 1, (some .boolean), false, 1, 1, false)
theorem m16 : aMeL[16]? = some me16 := rfl
theorem q16 (pc : Nat) : aCode 16 pc = (match aM16[pc]? with | some o => o | none => none) := rfl
abbrev me17 : aMe := (⟨"TypedTermReader$Text", "append", "(I)V"⟩, prog_8_method_5_code, 3, none, false, 2, 1, false)
theorem m17 : aMeL[17]? = some me17 := rfl
theorem q17 (pc : Nat) : aCode 17 pc = (match aM17[pc]? with | some o => o | none => none) := rfl
abbrev me18 : aMe := (⟨"TypedTermReader", "fault", "()I"⟩, prog_1_method_6_code, 1, (some .int), false, 1, 0, false)
theorem m18 : aMeL[18]? = some me18 := rfl
theorem q18 (pc : Nat) : aCode 18 pc = (match aM18[pc]? with | some o => o | none => none) := rfl
abbrev me19 : aMe := (⟨"TypedTermReader", "place", "()I"⟩, prog_1_method_7_code, 1, (some .int), false, 1, 0, false)
theorem m19 : aMeL[19]? = some me19 := rfl
theorem q19 (pc : Nat) : aCode 19 pc = (match aM19[pc]? with | some o => o | none => none) := rfl
abbrev me20 : aMe := (⟨"TypedTermReaderLaw", "term", "(LTypedTermReader;I[J)I"⟩, method_3_code, 4, (some .int), true, 3, 0, true)
theorem m20 : aMeL[20]? = some me20 := rfl
theorem q20 (pc : Nat) : aCode 20 pc = (match aM20[pc]? with | some o => o | none => none) := rfl
abbrev me21 : aMe := (⟨"TypedTermReader", "term", "(I)I"⟩, prog_1_method_3_code, 3, (some .int), false, 2, 0, false)
theorem m21 : aMeL[21]? = some me21 := rfl
theorem q21 (pc : Nat) : aCode 21 pc = (match aM21[pc]? with | some o => o | none => none) := rfl
abbrev me22 : aMe := (⟨"TypedTermReader$Text", "has", "(I)Z"⟩, prog_8_method_3_code, 2, (some .boolean), false, 2, 1, false)
theorem m22 : aMeL[22]? = some me22 := rfl
theorem q22 (pc : Nat) : aCode 22 pc = (match aM22[pc]? with | some o => o | none => none) := rfl
abbrev me23 : aMe := (⟨"TypedTermReader$Text", "open", "(I)V"⟩, prog_8_method_6_code, 2, none, false, 2, 1, false)
theorem m23 : aMeL[23]? = some me23 := rfl
theorem q23 (pc : Nat) : aCode 23 pc = (match aM23[pc]? with | some o => o | none => none) := rfl
abbrev me24 : aMe := (⟨"TypedTermReader$Text", "advance", "()V"⟩, prog_8_method_7_code, 2, none, false, 1, 1, false)
theorem m24 : aMeL[24]? = some me24 := rfl
theorem q24 (pc : Nat) : aCode 24 pc = (match aM24[pc]? with | some o => o | none => none) := rfl
abbrev me25 : aMe := (⟨"TypedTermReader$Text", "isRight", "()Z"⟩, prog_8_method_4_code, 1, (some .boolean), false, 1, 1, false)
theorem m25 : aMeL[25]? = some me25 := rfl
theorem q25 (pc : Nat) : aCode 25 pc = (match aM25[pc]? with | some o => o | none => none) := rfl
abbrev me26 : aMe := (⟨"TypedTermReader$Text", "behindBlanks", "(I)I"⟩, prog_8_method_15_code, 4, (some .int), false, 2, 1, false)
theorem m26 : aMeL[26]? = some me26 := rfl
theorem q26 (pc : Nat) : aCode 26 pc = (match aM26[pc]? with | some o => o | none => none) := rfl
abbrev me27 : aMe := (⟨"TypedTermReader$Text", "isBlank", "(I)Z"⟩, prog_8_method_23_code, 1, (some .boolean), true, 1, 1, false)
theorem m27 : aMeL[27]? = some me27 := rfl
theorem q27 (pc : Nat) : aCode 27 pc = (match aM27[pc]? with | some o => o | none => none) := rfl
abbrev me28 : aMe := (⟨"TypedTermReader$Text", "failHere", "(I)V"⟩, prog_8_method_12_code, 2, none, false, 2, 1, false)
theorem m28 : aMeL[28]? = some me28 := rfl
theorem q28 (pc : Nat) : aCode 28 pc = (match aM28[pc]? with | some o => o | none => none) := rfl
abbrev me29 : aMe := (⟨"TypedTermReader$Text", "fail", "(II)V"⟩, prog_8_method_14_code, 3, none, false, 3, 1, false)
theorem m29 : aMeL[29]? = some me29 := rfl
theorem q29 (pc : Nat) : aCode 29 pc = (match aM29[pc]? with | some o => o | none => none) := rfl
abbrev me30 : aMe := (⟨"TypedTermReader$Text", "isRight", "()Z"⟩, prog_8_method_4_code, 1, (some .boolean), false, 1, 1, false)
theorem m30 : aMeL[30]? = some me30 := rfl
theorem q30 (pc : Nat) : aCode 30 pc = (match aM30[pc]? with | some o => o | none => none) := rfl
abbrev me31 : aMe := (⟨"TypedTermReader$Text", "isLetter", "(I)Z"⟩, prog_8_method_24_code, 1, (some .boolean), true, 1, 1, false)
theorem m31 : aMeL[31]? = some me31 := rfl
theorem q31 (pc : Nat) : aCode 31 pc = (match aM31[pc]? with | some o => o | none => none) := rfl
abbrev me32 : aMe := (⟨"TypedTermReader$Text", "scanName", "()V"⟩, prog_8_method_16_code, 1, none, false, 1, 1, false)
theorem m32 : aMeL[32]? = some me32 := rfl
theorem q32 (pc : Nat) : aCode 32 pc = (match aM32[pc]? with | some o => o | none => none) := rfl
abbrev me33 : aMe := (⟨"TypedTermReader$Text", "behindWord", "(I)I"⟩, prog_8_method_22_code, 3, (some .int), false, 2, 1, false)
theorem m33 : aMeL[33]? = some me33 := rfl
theorem q33 (pc : Nat) : aCode 33 pc = (match aM33[pc]? with | some o => o | none => none) := rfl
abbrev me34 : aMe := (⟨"TypedTermReader$Text", "isDigit", "(I)Z"⟩, prog_8_method_25_code, 1, (some .boolean), true, 1, 1, false)
theorem m34 : aMeL[34]? = some me34 := rfl
theorem q34 (pc : Nat) : aCode 34 pc = (match aM34[pc]? with | some o => o | none => none) := rfl
abbrev me35 : aMe := (⟨"TypedTermReader$Text", "isKeyword", "()Z"⟩, prog_8_method_17_code, 3, (some .boolean), false, 1, 1, false)
theorem m35 : aMeL[35]? = some me35 := rfl
theorem q35 (pc : Nat) : aCode 35 pc = (match aM35[pc]? with | some o => o | none => none) := rfl
abbrev me36 : aMe := (⟨"TypedTermReader$Text", "scanTypeName", "()V"⟩, prog_8_method_18_code, 2, none, false, 1, 1, false)
theorem m36 : aMeL[36]? = some me36 := rfl
theorem q36 (pc : Nat) : aCode 36 pc = (match aM36[pc]? with | some o => o | none => none) := rfl
abbrev me37 : aMe := (⟨"TypedTermReader$Text", "byteAt", "(I)I"⟩, prog_8_method_21_code, 2, (some .int), false, 2, 1, false)
theorem m37 : aMeL[37]? = some me37 := rfl
theorem q37 (pc : Nat) : aCode 37 pc = (match aM37[pc]? with | some o => o | none => none) := rfl
abbrev me38 : aMe := (⟨"TypedTermReader$TermReader", "readBody", "(I)I"⟩, prog_6_method_14_code, 6, (some .int), false, 2, 7, false)
theorem m38 : aMeL[38]? = some me38 := rfl
theorem q38 (pc : Nat) : aCode 38 pc = (match aM38[pc]? with | some o => o | none => none) := rfl
abbrev me39 : aMe := (⟨"TypedTermReader$NameTable", "find", "([BII)I"⟩, prog_3_method_3_code, 6, (some .int), false, 4, 2, false)
theorem m39 : aMeL[39]? = some me39 := rfl
theorem q39 (pc : Nat) : aCode 39 pc = (match aM39[pc]? with | some o => o | none => none) := rfl
abbrev me40 : aMe := (⟨"TypedTermReader", "sameBytes", "([BII[BI)Z"⟩, prog_1_method_18_code, 6, (some .boolean), true, 5, 0, false)
theorem m40 : aMeL[40]? = some me40 := rfl
theorem q40 (pc : Nat) : aCode 40 pc = (match aM40[pc]? with | some o => o | none => none) := rfl
abbrev me41 : aMe := (⟨"TypedTermReader$Text", "scanNumeral", "()V"⟩, prog_8_method_19_code, 1, none, false, 1, 1, false)
theorem m41 : aMeL[41]? = some me41 := rfl
theorem q41 (pc : Nat) : aCode 41 pc = (match aM41[pc]? with | some o => o | none => none) := rfl
abbrev me42 : aMe := (⟨"TypedTermReader$Text", "scanSign", "(I)V"⟩, prog_8_method_20_code, 3, none, false, 2, 1, false)
theorem m42 : aMeL[42]? = some me42 := rfl
theorem q42 (pc : Nat) : aCode 42 pc = (match aM42[pc]? with | some o => o | none => none) := rfl
abbrev me43 : aMe := (⟨"TypedTermReader$Text", "kindOfThree", "(III)I"⟩, prog_8_method_26_code, 3, (some .int), true, 3, 1, false)
theorem m43 : aMeL[43]? = some me43 := rfl
theorem q43 (pc : Nat) : aCode 43 pc = (match aM43[pc]? with | some o => o | none => none) := rfl
abbrev me44 : aMe := (⟨"TypedTermReader$Text", "kindOfTwo", "(II)I"⟩, prog_8_method_27_code, 2, (some .int), true, 2, 1, false)
theorem m44 : aMeL[44]? = some me44 := rfl
theorem q44 (pc : Nat) : aCode 44 pc = (match aM44[pc]? with | some o => o | none => none) := rfl
abbrev me45 : aMe := (⟨"TypedTermReader$Text", "kindOfOne", "(I)I"⟩, prog_8_method_28_code, 1, (some .int), true, 1, 1, false)
theorem m45 : aMeL[45]? = some me45 := rfl
theorem q45 (pc : Nat) : aCode 45 pc = (match aM45[pc]? with | some o => o | none => none) := rfl
abbrev me46 : aMe := (⟨"TypedTermReader$TypePool", "clear", "()V"⟩, prog_9_method_2_code, 1, none, false, 1, 4, false)
theorem m46 : aMeL[46]? = some me46 := rfl
theorem q46 (pc : Nat) : aCode 46 pc = (match aM46[pc]? with | some o => o | none => none) := rfl
abbrev me47 : aMe := (⟨"TypedTermReader$TypePool", "unknown", "()I"⟩, prog_9_method_3_code, 1, (some .int), false, 1, 4, false)
theorem m47 : aMeL[47]? = some me47 := rfl
theorem q47 (pc : Nat) : aCode 47 pc = (match aM47[pc]? with | some o => o | none => none) := rfl
abbrev me48 : aMe := (⟨"TypedTermReader$TypePool", "add", "(III)I"⟩, prog_9_method_5_code, 4, (some .int), false, 4, 4, false)
theorem m48 : aMeL[48]? = some me48 := rfl
theorem q48 (pc : Nat) : aCode 48 pc = (match aM48[pc]? with | some o => o | none => none) := rfl
abbrev me49 : aMe := (⟨"TypedTermReader$TypePool", "measure", "(I)V"⟩, prog_9_method_19_code, 4, none, false, 2, 4, false)
theorem m49 : aMeL[49]? = some me49 := rfl
theorem q49 (pc : Nat) : aCode 49 pc = (match aM49[pc]? with | some o => o | none => none) := rfl
abbrev me50 : aMe := (⟨"TypedTermReader$TypePool", "sizeOf", "(I)I"⟩, prog_9_method_8_code, 2, (some .int), false, 2, 4, false)
theorem m50 : aMeL[50]? = some me50 := rfl
theorem q50 (pc : Nat) : aCode 50 pc = (match aM50[pc]? with | some o => o | none => none) := rfl
abbrev me51 : aMe := (⟨"TypedTermReader$TypePool", "find", "(I)I"⟩, prog_9_method_15_code, 4, (some .int), false, 2, 4, false)
theorem m51 : aMeL[51]? = some me51 := rfl
theorem q51 (pc : Nat) : aCode 51 pc = (match aM51[pc]? with | some o => o | none => none) := rfl
abbrev me52 : aMe := (⟨"TypedTermReader$TypePool", "heightOf", "(I)I"⟩, prog_9_method_9_code, 2, (some .int), false, 2, 4, false)
theorem m52 : aMeL[52]? = some me52 := rfl
theorem q52 (pc : Nat) : aCode 52 pc = (match aM52[pc]? with | some o => o | none => none) := rfl
abbrev me53 : aMe := (⟨"TypedTermReader$TypePool", "setMeasures", "(III)V"⟩, prog_9_method_11_code, 4, none, false, 4, 4, false)
theorem m53 : aMeL[53]? = some me53 := rfl
theorem q53 (pc : Nat) : aCode 53 pc = (match aM53[pc]? with | some o => o | none => none) := rfl
abbrev me54 : aMe := (⟨"TypedTermReader$TypeReader", "clear", "()V"⟩, prog_10_method_2_code, 1, none, false, 1, 6, false)
theorem m54 : aMeL[54]? = some me54 := rfl
theorem q54 (pc : Nat) : aCode 54 pc = (match aM54[pc]? with | some o => o | none => none) := rfl
abbrev me55 : aMe := (⟨"TypedTermReader$TermReader", "clear", "()V"⟩, prog_6_method_2_code, 1, none, false, 1, 7, false)
theorem m55 : aMeL[55]? = some me55 := rfl
theorem q55 (pc : Nat) : aCode 55 pc = (match aM55[pc]? with | some o => o | none => none) := rfl
abbrev me56 : aMe := (⟨"TypedTermReader$TermTree", "clear", "()V"⟩, prog_7_method_2_code, 1, none, false, 1, 9, false)
theorem m56 : aMeL[56]? = some me56 := rfl
theorem q56 (pc : Nat) : aCode 56 pc = (match aM56[pc]? with | some o => o | none => none) := rfl
abbrev me57 : aMe := (⟨"TypedTermReader$TermReader", "read", "(I)I"⟩, prog_6_method_4_code, 6, (some .int), false, 2, 7, false)
theorem m57 : aMeL[57]? = some me57 := rfl
theorem q57 (pc : Nat) : aCode 57 pc = (match aM57[pc]? with | some o => o | none => none) := rfl
abbrev me58 : aMe := (⟨"TypedTermReader$TermReader", "readOperand", "(I)I"⟩, prog_6_method_8_code, 5, (some .int), false, 2, 7, false)
theorem m58 : aMeL[58]? = some me58 := rfl
theorem q58 (pc : Nat) : aCode 58 pc = (match aM58[pc]? with | some o => o | none => none) := rfl
abbrev me59 : aMe := (⟨"TypedTermReader", "isBinder", "(I)Z"⟩, prog_1_method_15_code, 1, (some .boolean), true, 1, 0, false)
theorem m59 : aMeL[59]? = some me59 := rfl
theorem q59 (pc : Nat) : aCode 59 pc = (match aM59[pc]? with | some o => o | none => none) := rfl
abbrev me60 : aMe := (⟨"TypedTermReader$TermReader", "readBinder", "(I)I"⟩, prog_6_method_13_code, 5, (some .int), false, 2, 7, false)
theorem m60 : aMeL[60]? = some me60 := rfl
theorem q60 (pc : Nat) : aCode 60 pc = (match aM60[pc]? with | some o => o | none => none) := rfl
abbrev me61 : aMe := (⟨"TypedTermReader$Text", "failIfTooDeep", "(I)Z"⟩, prog_8_method_11_code, 2, (some .boolean), false, 2, 1, false)
theorem m61 : aMeL[61]? = some me61 := rfl
theorem q61 (pc : Nat) : aCode 61 pc = (match aM61[pc]? with | some o => o | none => none) := rfl
abbrev me62 : aMe := (⟨"TypedTermReader$TermReader", "addVariable", "(III)V"⟩, prog_6_method_15_code, 4, none, false, 4, 7, false)
theorem m62 : aMeL[62]? = some me62 := rfl
theorem q62 (pc : Nat) : aCode 62 pc = (match aM62[pc]? with | some o => o | none => none) := rfl
abbrev me63 : aMe := (⟨"TypedTermReader$Text", "expect", "(I)V"⟩, prog_8_method_9_code, 2, none, false, 2, 1, false)
theorem m63 : aMeL[63]? = some me63 := rfl
theorem q63 (pc : Nat) : aCode 63 pc = (match aM63[pc]? with | some o => o | none => none) := rfl
abbrev me64 : aMe := (⟨"TypedTermReader$TypePool", "written", "(III)I"⟩, prog_9_method_6_code, 5, (some .int), false, 4, 4, false)
theorem m64 : aMeL[64]? = some me64 := rfl
theorem q64 (pc : Nat) : aCode 64 pc = (match aM64[pc]? with | some o => o | none => none) := rfl
abbrev me65 : aMe := (⟨"TypedTermReader$TypeReader", "read", "(I)I"⟩, prog_10_method_3_code, 5, (some .int), false, 2, 6, false)
theorem m65 : aMeL[65]? = some me65 := rfl
theorem q65 (pc : Nat) : aCode 65 pc = (match aM65[pc]? with | some o => o | none => none) := rfl
abbrev me66 : aMe := (⟨"TypedTermReader$TypeReader", "readAtom", "(I)I"⟩, prog_10_method_5_code, 2, (some .int), false, 2, 6, false)
theorem m66 : aMeL[66]? = some me66 := rfl
theorem q66 (pc : Nat) : aCode 66 pc = (match aM66[pc]? with | some o => o | none => none) := rfl
abbrev me67 : aMe := (⟨"TypedTermReader$TypeReader", "readNamed", "(I)I"⟩, prog_10_method_6_code, 9, (some .int), false, 2, 6, false)
theorem m67 : aMeL[67]? = some me67 := rfl
theorem q67 (pc : Nat) : aCode 67 pc = (match aM67[pc]? with | some o => o | none => none) := rfl
abbrev me68 : aMe := (⟨"TypedTermReader$TypeReader", "startsPart", "(I)Z"⟩, prog_10_method_10_code, 1, (some .boolean), true, 1, 6, false)
theorem m68 : aMeL[68]? = some me68 := rfl
theorem q68 (pc : Nat) : aCode 68 pc = (match aM68[pc]? with | some o => o | none => none) := rfl
abbrev me69 : aMe := (⟨"TypedTermReader$TypeReader", "readLoneName", "()I"⟩, prog_10_method_7_code, 2, (some .int), false, 1, 6, false)
theorem m69 : aMeL[69]? = some me69 := rfl
theorem q69 (pc : Nat) : aCode 69 pc = (match aM69[pc]? with | some o => o | none => none) := rfl
abbrev me70 : aMe := (⟨"TypedTermReader$TypeTable", "takenBy", "(I)I"⟩, prog_11_method_3_code, 2, (some .int), false, 2, 3, false)
theorem m70 : aMeL[70]? = some me70 := rfl
theorem q70 (pc : Nat) : aCode 70 pc = (match aM70[pc]? with | some o => o | none => none) := rfl
abbrev me71 : aMe := (⟨"TypedTermReader$TypeReader", "readPart", "(I)I"⟩, prog_10_method_8_code, 3, (some .int), false, 2, 6, false)
theorem m71 : aMeL[71]? = some me71 := rfl
theorem q71 (pc : Nat) : aCode 71 pc = (match aM71[pc]? with | some o => o | none => none) := rfl
abbrev me72 : aMe := (⟨"TypedTermReader$TypeReader", "readInside", "(I)I"⟩, prog_10_method_9_code, 3, (some .int), false, 2, 6, false)
theorem m72 : aMeL[72]? = some me72 := rfl
theorem q72 (pc : Nat) : aCode 72 pc = (match aM72[pc]? with | some o => o | none => none) := rfl
abbrev me73 : aMe := (⟨"TypedTermReader$TypeReader", "putAside", "(I)V"⟩, prog_10_method_4_code, 2, none, false, 2, 6, false)
theorem m73 : aMeL[73]? = some me73 := rfl
theorem q73 (pc : Nat) : aCode 73 pc = (match aM73[pc]? with | some o => o | none => none) := rfl
abbrev me74 : aMe := (⟨"TypedTermReader$TypePool", "function", "(II)I"⟩, prog_9_method_4_code, 3, (some .int), false, 3, 4, false)
theorem m74 : aMeL[74]? = some me74 := rfl
theorem q74 (pc : Nat) : aCode 74 pc = (match aM74[pc]? with | some o => o | none => none) := rfl
abbrev me75 : aMe := (⟨"TypedTermReader$TypePool", "isLarge", "(I)Z"⟩, prog_9_method_10_code, 2, (some .boolean), false, 2, 4, false)
theorem m75 : aMeL[75]? = some me75 := rfl
theorem q75 (pc : Nat) : aCode 75 pc = (match aM75[pc]? with | some o => o | none => none) := rfl
abbrev me76 : aMe := (⟨"TypedTermReader$Scope", "isFull", "()Z"⟩, prog_4_method_2_code, 1, (some .boolean), false, 1, 8, false)
theorem m76 : aMeL[76]? = some me76 := rfl
theorem q76 (pc : Nat) : aCode 76 pc = (match aM76[pc]? with | some o => o | none => none) := rfl
abbrev me77 : aMe := (⟨"TypedTermReader$Scope", "add", "(III)V"⟩, prog_4_method_3_code, 4, none, false, 4, 8, false)
theorem m77 : aMeL[77]? = some me77 := rfl
theorem q77 (pc : Nat) : aCode 77 pc = (match aM77[pc]? with | some o => o | none => none) := rfl
abbrev me78 : aMe := (⟨"TypedTermReader$TermReader", "bind", "(III)I"⟩, prog_6_method_16_code, 5, (some .int), false, 4, 7, false)
theorem m78 : aMeL[78]? = some me78 := rfl
theorem q78 (pc : Nat) : aCode 78 pc = (match aM78[pc]? with | some o => o | none => none) := rfl
abbrev me79 : aMe := (⟨"TypedTermReader$Scope", "typeOf", "(I)I"⟩, prog_4_method_4_code, 2, (some .int), false, 2, 8, false)
theorem m79 : aMeL[79]? = some me79 := rfl
theorem q79 (pc : Nat) : aCode 79 pc = (match aM79[pc]? with | some o => o | none => none) := rfl
abbrev me80 : aMe := (⟨"TypedTermReader$TermTree", "abstraction", "(II)I"⟩, prog_7_method_5_code, 3, (some .int), false, 3, 9, false)
theorem m80 : aMeL[80]? = some me80 := rfl
theorem q80 (pc : Nat) : aCode 80 pc = (match aM80[pc]? with | some o => o | none => none) := rfl
abbrev me81 : aMe := (⟨"TypedTermReader$TermTree", "add", "(IIII)I"⟩, prog_7_method_6_code, 5, (some .int), false, 5, 9, false)
theorem m81 : aMeL[81]? = some me81 := rfl
theorem q81 (pc : Nat) : aCode 81 pc = (match aM81[pc]? with | some o => o | none => none) := rfl
abbrev me82 : aMe := (⟨"TypedTermReader$TermReader", "constantLeaf", "(I)I"⟩, prog_6_method_20_code, 2, (some .int), false, 2, 7, false)
theorem m82 : aMeL[82]? = some me82 := rfl
theorem q82 (pc : Nat) : aCode 82 pc = (match aM82[pc]? with | some o => o | none => none) := rfl
abbrev me83 : aMe := (⟨"TypedTermReader$TermReader", "constantLeaf", "(II)I"⟩, prog_6_method_21_code, 3, (some .int), false, 3, 7, false)
theorem m83 : aMeL[83]? = some me83 := rfl
theorem q83 (pc : Nat) : aCode 83 pc = (match aM83[pc]? with | some o => o | none => none) := rfl
abbrev me84 : aMe := (⟨"TypedTermReader$ConstantTable", "newType", "(I)I"⟩, prog_2_method_3_code, 10, (some .int), false, 2, 5, false)
theorem m84 : aMeL[84]? = some me84 := rfl
theorem q84 (pc : Nat) : aCode 84 pc = (match aM84[pc]? with | some o => o | none => none) := rfl
abbrev me85 : aMe := (⟨"TypedTermReader$ConstantTable", "nodeOfVariable", "(III)I"⟩, prog_2_method_4_code, 5, (some .int), false, 4, 5, false)
theorem m85 : aMeL[85]? = some me85 := rfl
theorem q85 (pc : Nat) : aCode 85 pc = (match aM85[pc]? with | some o => o | none => none) := rfl
abbrev me86 : aMe := (⟨"TypedTermReader$TermTree", "leaf", "(II)I"⟩, prog_7_method_3_code, 3, (some .int), false, 3, 9, false)
theorem m86 : aMeL[86]? = some me86 := rfl
theorem q86 (pc : Nat) : aCode 86 pc = (match aM86[pc]? with | some o => o | none => none) := rfl
abbrev me87 : aMe := (⟨"TypedTermReader$TermTree", "application", "(II)I"⟩, prog_7_method_4_code, 4, (some .int), false, 3, 9, false)
theorem m87 : aMeL[87]? = some me87 := rfl
theorem q87 (pc : Nat) : aCode 87 pc = (match aM87[pc]? with | some o => o | none => none) := rfl
abbrev me88 : aMe := (⟨"TypedTermReader$TypePool", "applied", "(II)I"⟩, prog_9_method_12_code, 5, (some .int), false, 3, 4, false)
theorem m88 : aMeL[88]? = some me88 := rfl
theorem q88 (pc : Nat) : aCode 88 pc = (match aM88[pc]? with | some o => o | none => none) := rfl
abbrev me89 : aMe := (⟨"TypedTermReader$TypePool", "equate", "(II)V"⟩, prog_9_method_13_code, 6, none, false, 3, 4, false)
theorem m89 : aMeL[89]? = some me89 := rfl
theorem q89 (pc : Nat) : aCode 89 pc = (match aM89[pc]? with | some o => o | none => none) := rfl
abbrev me90 : aMe := (⟨"TypedTermReader$TypePool", "join", "(II)V"⟩, prog_9_method_14_code, 5, none, false, 3, 4, false)
theorem m90 : aMeL[90]? = some me90 := rfl
theorem q90 (pc : Nat) : aCode 90 pc = (match aM90[pc]? with | some o => o | none => none) := rfl
abbrev me91 : aMe := (⟨"TypedTermReader$TypePool", "writtenWrong", "(II)I"⟩, prog_9_method_7_code, 4, (some .int), false, 3, 4, false)
theorem m91 : aMeL[91]? = some me91 := rfl
theorem q91 (pc : Nat) : aCode 91 pc = (match aM91[pc]? with | some o => o | none => none) := rfl
abbrev me92 : aMe := (⟨"TypedTermReader$TermReader", "readApplications", "(I)I"⟩, prog_6_method_9_code, 4, (some .int), false, 2, 7, false)
theorem m92 : aMeL[92]? = some me92 := rfl
theorem q92 (pc : Nat) : aCode 92 pc = (match aM92[pc]? with | some o => o | none => none) := rfl
abbrev me93 : aMe := (⟨"TypedTermReader$TermReader", "readAtom", "(I)I"⟩, prog_6_method_10_code, 3, (some .int), false, 2, 7, false)
theorem m93 : aMeL[93]? = some me93 := rfl
theorem q93 (pc : Nat) : aCode 93 pc = (match aM93[pc]? with | some o => o | none => none) := rfl
abbrev me94 : aMe := (⟨"TypedTermReader$TermReader", "readInside", "(I)I"⟩, prog_6_method_11_code, 4, (some .int), false, 2, 7, false)
theorem m94 : aMeL[94]? = some me94 := rfl
theorem q94 (pc : Nat) : aCode 94 pc = (match aM94[pc]? with | some o => o | none => none) := rfl
abbrev me95 : aMe := (⟨"TypedTermReader$TermReader", "isLoneSign", "()Z"⟩, prog_6_method_12_code, 2, (some .boolean), false, 1, 7, false)
theorem m95 : aMeL[95]? = some me95 := rfl
theorem q95 (pc : Nat) : aCode 95 pc = (match aM95[pc]? with | some o => o | none => none) := rfl
abbrev me96 : aMe := (⟨"TypedTermReader", "strengthOf", "(I)I"⟩, prog_1_method_17_code, 1, (some .int), true, 1, 0, false)
theorem m96 : aMeL[96]? = some me96 := rfl
theorem q96 (pc : Nat) : aCode 96 pc = (match aM96[pc]? with | some o => o | none => none) := rfl
abbrev me97 : aMe := (⟨"TypedTermReader$Text", "isRightNext", "()Z"⟩, prog_8_method_8_code, 2, (some .boolean), false, 1, 1, false)
theorem m97 : aMeL[97]? = some me97 := rfl
theorem q97 (pc : Nat) : aCode 97 pc = (match aM97[pc]? with | some o => o | none => none) := rfl
abbrev me98 : aMe := (⟨"TypedTermReader$TermReader", "constantOfToken", "()I"⟩, prog_6_method_19_code, 2, (some .int), false, 1, 7, false)
theorem m98 : aMeL[98]? = some me98 := rfl
theorem q98 (pc : Nat) : aCode 98 pc = (match aM98[pc]? with | some o => o | none => none) := rfl
abbrev me99 : aMe := (⟨"TypedTermReader$TermReader", "numeral", "(I)I"⟩, prog_6_method_17_code, 4, (some .int), false, 2, 7, false)
theorem m99 : aMeL[99]? = some me99 := rfl
theorem q99 (pc : Nat) : aCode 99 pc = (match aM99[pc]? with | some o => o | none => none) := rfl
abbrev me100 : aMe := (⟨"TypedTermReader$TermReader", "nameOfToken", "()I"⟩, prog_6_method_18_code, 2, (some .int), false, 1, 7, false)
theorem m100 : aMeL[100]? = some me100 := rfl
theorem q100 (pc : Nat) : aCode 100 pc = (match aM100[pc]? with | some o => o | none => none) := rfl
abbrev me101 : aMe := (⟨"TypedTermReader$Scope", "find", "(LTypedTermReader$Text;)I"⟩, prog_4_method_5_code, 4, (some .int), false, 2, 8, false)
theorem m101 : aMeL[101]? = some me101 := rfl
theorem q101 (pc : Nat) : aCode 101 pc = (match aM101[pc]? with | some o => o | none => none) := rfl
abbrev me102 : aMe := (⟨"TypedTermReader", "startsAtom", "(I)Z"⟩, prog_1_method_16_code, 1, (some .boolean), true, 1, 0, false)
theorem m102 : aMeL[102]? = some me102 := rfl
theorem q102 (pc : Nat) : aCode 102 pc = (match aM102[pc]? with | some o => o | none => none) := rfl
abbrev me103 : aMe := (⟨"TypedTermReader$TermReader", "applyStronger", "(III)I"⟩, prog_6_method_6_code, 5, (some .int), false, 4, 7, false)
theorem m103 : aMeL[103]? = some me103 := rfl
theorem q103 (pc : Nat) : aCode 103 pc = (match aM103[pc]? with | some o => o | none => none) := rfl
abbrev me104 : aMe := (⟨"TypedTermReader$TermReader", "holdsBefore", "(II)Z"⟩, prog_6_method_7_code, 2, (some .boolean), true, 2, 7, false)
theorem m104 : aMeL[104]? = some me104 := rfl
theorem q104 (pc : Nat) : aCode 104 pc = (match aM104[pc]? with | some o => o | none => none) := rfl
abbrev me105 : aMe := (⟨"TypedTermReader$TermReader", "putAside", "(II)V"⟩, prog_6_method_5_code, 3, none, false, 3, 7, false)
theorem m105 : aMeL[105]? = some me105 := rfl
theorem q105 (pc : Nat) : aCode 105 pc = (match aM105[pc]? with | some o => o | none => none) := rfl
abbrev me106 : aMe := (⟨"TypedTermReader$Text", "expectEnd", "()V"⟩, prog_8_method_10_code, 1, none, false, 1, 1, false)
theorem m106 : aMeL[106]? = some me106 := rfl
theorem q106 (pc : Nat) : aCode 106 pc = (match aM106[pc]? with | some o => o | none => none) := rfl
abbrev me107 : aMe := (⟨"TypedTermReader$TermReader", "faultOf", "(I)I"⟩, prog_6_method_3_code, 2, (some .int), false, 2, 7, false)
theorem m107 : aMeL[107]? = some me107 := rfl
theorem q107 (pc : Nat) : aCode 107 pc = (match aM107[pc]? with | some o => o | none => none) := rfl
abbrev me108 : aMe := (⟨"TypedTermReader$TermTree", "isLarge", "(I)Z"⟩, prog_7_method_7_code, 2, (some .boolean), false, 2, 9, false)
theorem m108 : aMeL[108]? = some me108 := rfl
theorem q108 (pc : Nat) : aCode 108 pc = (match aM108[pc]? with | some o => o | none => none) := rfl
abbrev me109 : aMe := (⟨"TypedTermReader$TypePool", "measureAll", "()Z"⟩, prog_9_method_16_code, 3, (some .boolean), false, 1, 4, false)
theorem m109 : aMeL[109]? = some me109 := rfl
theorem q109 (pc : Nat) : aCode 109 pc = (match aM109[pc]? with | some o => o | none => none) := rfl
abbrev me110 : aMe := (⟨"TypedTermReader$TypePool", "measureWithParts", "(I)Z"⟩, prog_9_method_17_code, 6, (some .boolean), false, 2, 4, false)
theorem m110 : aMeL[110]? = some me110 := rfl
theorem q110 (pc : Nat) : aCode 110 pc = (match aM110[pc]? with | some o => o | none => none) := rfl
abbrev me111 : aMe := (⟨"TypedTermReader$TypePool", "unmeasuredPart", "(I)I"⟩, prog_9_method_18_code, 2, (some .int), false, 2, 4, false)
theorem m111 : aMeL[111]? = some me111 := rfl
theorem q111 (pc : Nat) : aCode 111 pc = (match aM111[pc]? with | some o => o | none => none) := rfl
abbrev me112 : aMe := (⟨"TypedTermReader$TermTree", "hasLargeType", "()Z"⟩, prog_7_method_8_code, 2, (some .boolean), false, 1, 9, false)
theorem m112 : aMeL[112]? = some me112 := rfl
theorem q112 (pc : Nat) : aCode 112 pc = (match aM112[pc]? with | some o => o | none => none) := rfl
abbrev me113 : aMe := (⟨"TypedTermReader$Text", "failAsWhole", "(I)V"⟩, prog_8_method_13_code, 2, none, false, 2, 1, false)
theorem m113 : aMeL[113]? = some me113 := rfl
theorem q113 (pc : Nat) : aCode 113 pc = (match aM113[pc]? with | some o => o | none => none) := rfl
abbrev me114 : aMe := (⟨"TypedTermReader$ShownTerm", "fill", "(LTypedTermReader$TermTree;ILTypedTermReader$TypePool;)V"⟩, prog_5_method_4_code, 6, none, false, 4, 10, false)
theorem m114 : aMeL[114]? = some me114 := rfl
theorem q114 (pc : Nat) : aCode 114 pc = (match aM114[pc]? with | some o => o | none => none) := rfl
abbrev me115 : aMe := (⟨"TypedTermReader$TypePool", "write", "(I[II)I"⟩, prog_9_method_20_code, 7, (some .int), false, 4, 4, false)
theorem m115 : aMeL[115]? = some me115 := rfl
theorem q115 (pc : Nat) : aCode 115 pc = (match aM115[pc]? with | some o => o | none => none) := rfl
abbrev me116 : aMe := (⟨"TypedTermReader$TypePool", "codeOf", "(I)I"⟩, prog_9_method_22_code, 2, (some .int), false, 2, 4, false)
theorem m116 : aMeL[116]? = some me116 := rfl
theorem q116 (pc : Nat) : aCode 116 pc = (match aM116[pc]? with | some o => o | none => none) := rfl
abbrev me117 : aMe := (⟨"TypedTermReader$TypePool", "putAside", "(II)I"⟩, prog_9_method_21_code, 3, (some .int), false, 3, 4, false)
theorem m117 : aMeL[117]? = some me117 := rfl
theorem q117 (pc : Nat) : aCode 117 pc = (match aM117[pc]? with | some o => o | none => none) := rfl
abbrev me118 : aMe := (⟨"TypedTermReader$ShownTerm", "putAside", "(II)I"⟩, prog_5_method_5_code, 3, (some .int), false, 3, 10, false)
theorem m118 : aMeL[118]? = some me118 := rfl
theorem q118 (pc : Nat) : aCode 118 pc = (match aM118[pc]? with | some o => o | none => none) := rfl
abbrev me119 : aMe := (⟨"TypedTermReaderLaw", "constant", "(LTypedTermReader;I[J)I"⟩, method_4_code, 4, (some .int), true, 3, 0, true)
theorem m119 : aMeL[119]? = some me119 := rfl
theorem q119 (pc : Nat) : aCode 119 pc = (match aM119[pc]? with | some o => o | none => none) := rfl
abbrev me120 : aMe := (⟨"TypedTermReader", "constant", "(I)I"⟩, prog_1_method_4_code, 2, (some .int), false, 2, 0, false)
theorem m120 : aMeL[120]? = some me120 := rfl
theorem q120 (pc : Nat) : aCode 120 pc = (match aM120[pc]? with | some o => o | none => none) := rfl
abbrev me121 : aMe := (⟨"TypedTermReader", "declareConstant", "()I"⟩, prog_1_method_10_code, 4, (some .int), false, 1, 0, false)
theorem m121 : aMeL[121]? = some me121 := rfl
theorem q121 (pc : Nat) : aCode 121 pc = (match aM121[pc]? with | some o => o | none => none) := rfl
abbrev me122 : aMe := (⟨"TypedTermReader", "canBeDeclared", "(I)Z"⟩, prog_1_method_14_code, 1, (some .boolean), true, 1, 0, false)
theorem m122 : aMeL[122]? = some me122 := rfl
theorem q122 (pc : Nat) : aCode 122 pc = (match aM122[pc]? with | some o => o | none => none) := rfl
abbrev me123 : aMe := (⟨"TypedTermReader", "faultOfConstant", "(II)I"⟩, prog_1_method_11_code, 3, (some .int), false, 3, 0, false)
theorem m123 : aMeL[123]? = some me123 := rfl
theorem q123 (pc : Nat) : aCode 123 pc = (match aM123[pc]? with | some o => o | none => none) := rfl
abbrev me124 : aMe := (⟨"TypedTermReader$ConstantTable", "add", "([BIII)I"⟩, prog_2_method_2_code, 6, (some .int), false, 5, 5, false)
theorem m124 : aMeL[124]? = some me124 := rfl
theorem q124 (pc : Nat) : aCode 124 pc = (match aM124[pc]? with | some o => o | none => none) := rfl
abbrev me125 : aMe := (⟨"TypedTermReaderLaw", "type", "(LTypedTermReader;I[J)I"⟩, method_5_code, 4, (some .int), true, 3, 0, true)
theorem m125 : aMeL[125]? = some me125 := rfl
theorem q125 (pc : Nat) : aCode 125 pc = (match aM125[pc]? with | some o => o | none => none) := rfl
abbrev me126 : aMe := (⟨"TypedTermReader", "type", "(I)I"⟩, prog_1_method_5_code, 2, (some .int), false, 2, 0, false)
theorem m126 : aMeL[126]? = some me126 := rfl
theorem q126 (pc : Nat) : aCode 126 pc = (match aM126[pc]? with | some o => o | none => none) := rfl
abbrev me127 : aMe := (⟨"TypedTermReader", "declareType", "()I"⟩, prog_1_method_12_code, 4, (some .int), false, 1, 0, false)
theorem m127 : aMeL[127]? = some me127 := rfl
theorem q127 (pc : Nat) : aCode 127 pc = (match aM127[pc]? with | some o => o | none => none) := rfl
abbrev me128 : aMe := (⟨"TypedTermReader", "faultOfType", "(II)I"⟩, prog_1_method_13_code, 3, (some .int), false, 3, 0, false)
theorem m128 : aMeL[128]? = some me128 := rfl
theorem q128 (pc : Nat) : aCode 128 pc = (match aM128[pc]? with | some o => o | none => none) := rfl
abbrev me129 : aMe := (⟨"TypedTermReader$TypeTable", "add", "([BIII)V"⟩, prog_11_method_2_code, 6, none, false, 5, 3, false)
theorem m129 : aMeL[129]? = some me129 := rfl
theorem q129 (pc : Nat) : aCode 129 pc = (match aM129[pc]? with | some o => o | none => none) := rfl
abbrev me130 : aMe := (⟨"TypedTermReaderLaw", "symbol", "(LTypedTermReader;I[J)I"⟩, method_6_code, 4, (some .int), true, 3, 0, true)
theorem m130 : aMeL[130]? = some me130 := rfl
theorem q130 (pc : Nat) : aCode 130 pc = (match aM130[pc]? with | some o => o | none => none) := rfl
abbrev me131 : aMe := (⟨"TypedTermReader", "symbol", "(I)I"⟩, prog_1_method_8_code, 2, (some .int), false, 2, 0, false)
theorem m131 : aMeL[131]? = some me131 := rfl
theorem q131 (pc : Nat) : aCode 131 pc = (match aM131[pc]? with | some o => o | none => none) := rfl
abbrev me132 : aMe := (⟨"TypedTermReader$ShownTerm", "has", "(I)Z"⟩, prog_5_method_2_code, 2, (some .boolean), false, 2, 10, false)
theorem m132 : aMeL[132]? = some me132 := rfl
theorem q132 (pc : Nat) : aCode 132 pc = (match aM132[pc]? with | some o => o | none => none) := rfl
abbrev me133 : aMe := (⟨"TypedTermReaderLaw", "typeSymbol", "(LTypedTermReader;II[J)I"⟩, method_7_code, 5, (some .int), true, 4, 0, true)
theorem m133 : aMeL[133]? = some me133 := rfl
theorem q133 (pc : Nat) : aCode 133 pc = (match aM133[pc]? with | some o => o | none => none) := rfl
abbrev me134 : aMe := (⟨"TypedTermReader", "typeSymbol", "(II)I"⟩, prog_1_method_9_code, 3, (some .int), false, 3, 0, false)
theorem m134 : aMeL[134]? = some me134 := rfl
theorem q134 (pc : Nat) : aCode 134 pc = (match aM134[pc]? with | some o => o | none => none) := rfl
abbrev me135 : aMe := (⟨"TypedTermReader$ShownTerm", "hasInType", "(II)Z"⟩, prog_5_method_3_code, 3, (some .boolean), false, 3, 10, false)
theorem m135 : aMeL[135]? = some me135 := rfl
theorem q135 (pc : Nat) : aCode 135 pc = (match aM135[pc]? with | some o => o | none => none) := rfl
abbrev me136 : aMe := (⟨"TypedTermReaderModel", "<init>", "()V"⟩, prog_13_method_1_code, 7, none, false, 1, 11, false)
theorem m136 : aMeL[136]? = some me136 := rfl
theorem q136 (pc : Nat) : aCode 136 pc = (match aM136[pc]? with | some o => o | none => none) := rfl
abbrev me137 : aMe := (⟨"TypedTermReaderModel", "node", "(III)I"⟩, prog_13_method_44_code, 4, (some .int), false, 4, 11, false)
theorem m137 : aMeL[137]? = some me137 := rfl
theorem q137 (pc : Nat) : aCode 137 pc = (match aM137[pc]? with | some o => o | none => none) := rfl
abbrev me138 : aMe := (⟨"TypedTermReaderModel", "function", "(II)I"⟩, prog_13_method_46_code, 3, (some .int), false, 3, 11, false)
theorem m138 : aMeL[138]? = some me138 := rfl
theorem q138 (pc : Nat) : aCode 138 pc = (match aM138[pc]? with | some o => o | none => none) := rfl
abbrev me139 : aMe := (⟨"TypedTermReaderModel", "spell", "([JILjava/lang/String;)V"⟩, prog_13_method_4_code, 4, none, true, 3, 11, false)
theorem m139 : aMeL[139]? = some me139 := rfl
theorem q139 (pc : Nat) : aCode 139 pc = (match aM139[pc]? with | some o => o | none => none) := rfl
abbrev me140 : aMe := (⟨"TypedTermReaderModel", "put", "([JIII)V"⟩, prog_13_method_3_code, 4, none, true, 4, 11, false)
theorem m140 : aMeL[140]? = some me140 := rfl
theorem q140 (pc : Nat) : aCode 140 pc = (match aM140[pc]? with | some o => o | none => none) := rfl
abbrev me141 : aMe := (⟨"TypedTermReaderModel", "thrown", "()I"⟩, prog_13_method_2_code, 1, (some .int), false, 1, 11, false)
theorem m141 : aMeL[141]? = some me141 := rfl
theorem q141 (pc : Nat) : aCode 141 pc = (match aM141[pc]? with | some o => o | none => none) := rfl
abbrev me142 : aMe := (⟨"TypedTermReaderModel", "feed", "(IIIII)Z"⟩, prog_13_method_8_code, 8, (some .boolean), false, 6, 11, false)
theorem m142 : aMeL[142]? = some me142 := rfl
theorem q142 (pc : Nat) : aCode 142 pc = (match aM142[pc]? with | some o => o | none => none) := rfl
abbrev me143 : aMe := (⟨"TypedTermReaderModel", "term", "(I)I"⟩, prog_13_method_66_code, 4, (some .int), false, 2, 11, false)
theorem m143 : aMeL[143]? = some me143 := rfl
theorem q143 (pc : Nat) : aCode 143 pc = (match aM143[pc]? with | some o => o | none => none) := rfl
abbrev me144 : aMe := (⟨"TypedTermReaderModel", "takes", "(I)Z"⟩, prog_13_method_64_code, 2, (some .boolean), false, 2, 11, false)
theorem m144 : aMeL[144]? = some me144 := rfl
theorem q144 (pc : Nat) : aCode 144 pc = (match aM144[pc]? with | some o => o | none => none) := rfl
abbrev me145 : aMe := (⟨"TypedTermReaderModel", "begin", "(I)V"⟩, prog_13_method_22_code, 3, none, false, 2, 11, false)
theorem m145 : aMeL[145]? = some me145 := rfl
theorem q145 (pc : Nat) : aCode 145 pc = (match aM145[pc]? with | some o => o | none => none) := rfl
abbrev me146 : aMe := (⟨"TypedTermReaderModel", "readTerm", "()I"⟩, prog_13_method_36_code, 5, (some .int), false, 1, 11, false)
theorem m146 : aMeL[146]? = some me146 := rfl
theorem q146 (pc : Nat) : aCode 146 pc = (match aM146[pc]? with | some o => o | none => none) := rfl
abbrev me147 : aMe := (⟨"TypedTermReaderModel", "readOperand", "()I"⟩, prog_13_method_37_code, 5, (some .int), false, 1, 11, false)
theorem m147 : aMeL[147]? = some me147 := rfl
theorem q147 (pc : Nat) : aCode 147 pc = (match aM147[pc]? with | some o => o | none => none) := rfl
abbrev me148 : aMe := (⟨"TypedTermReaderModel", "look", "(I)I"⟩, prog_13_method_20_code, 3, (some .int), false, 2, 11, false)
theorem m148 : aMeL[148]? = some me148 := rfl
theorem q148 (pc : Nat) : aCode 148 pc = (match aM148[pc]? with | some o => o | none => none) := rfl
abbrev me149 : aMe := (⟨"TypedTermReaderModel", "scan", "()V"⟩, prog_13_method_19_code, 2, none, false, 1, 11, false)
theorem m149 : aMeL[149]? = some me149 := rfl
theorem q149 (pc : Nat) : aCode 149 pc = (match aM149[pc]? with | some o => o | none => none) := rfl
abbrev me150 : aMe := (⟨"TypedTermReaderModel", "behindBlanks", "(I)I"⟩, prog_13_method_13_code, 5, (some .int), false, 2, 11, false)
theorem m150 : aMeL[150]? = some me150 := rfl
theorem q150 (pc : Nat) : aCode 150 pc = (match aM150[pc]? with | some o => o | none => none) := rfl
abbrev me151 : aMe := (⟨"TypedTermReaderModel", "byteAt", "(I)I"⟩, prog_13_method_12_code, 2, (some .int), false, 2, 11, false)
theorem m151 : aMeL[151]? = some me151 := rfl
theorem q151 (pc : Nat) : aCode 151 pc = (match aM151[pc]? with | some o => o | none => none) := rfl
abbrev me152 : aMe := (⟨"TypedTermReaderModel", "die", "(II)V"⟩, prog_13_method_9_code, 3, none, false, 3, 11, false)
theorem m152 : aMeL[152]? = some me152 := rfl
theorem q152 (pc : Nat) : aCode 152 pc = (match aM152[pc]? with | some o => o | none => none) := rfl
abbrev me153 : aMe := (⟨"TypedTermReaderModel", "isLetter", "(I)Z"⟩, prog_13_method_10_code, 1, (some .boolean), true, 1, 11, false)
theorem m153 : aMeL[153]? = some me153 := rfl
theorem q153 (pc : Nat) : aCode 153 pc = (match aM153[pc]? with | some o => o | none => none) := rfl
abbrev me154 : aMe := (⟨"TypedTermReaderModel", "scanWord", "(I)V"⟩, prog_13_method_17_code, 6, none, false, 2, 11, false)
theorem m154 : aMeL[154]? = some me154 := rfl
theorem q154 (pc : Nat) : aCode 154 pc = (match aM154[pc]? with | some o => o | none => none) := rfl
abbrev me155 : aMe := (⟨"TypedTermReaderModel", "isDigit", "(I)Z"⟩, prog_13_method_11_code, 1, (some .boolean), true, 1, 11, false)
theorem m155 : aMeL[155]? = some me155 := rfl
theorem q155 (pc : Nat) : aCode 155 pc = (match aM155[pc]? with | some o => o | none => none) := rfl
abbrev me156 : aMe := (⟨"TypedTermReaderModel", "isNext", "(ILjava/lang/String;)Z"⟩, prog_13_method_14_code, 5, (some .boolean), false, 3, 11, false)
theorem m156 : aMeL[156]? = some me156 := rfl
theorem q156 (pc : Nat) : aCode 156 pc = (match aM156[pc]? with | some o => o | none => none) := rfl
abbrev me157 : aMe := (⟨"TypedTermReaderModel", "sign", "(II)V"⟩, prog_13_method_15_code, 3, none, false, 3, 11, false)
theorem m157 : aMeL[157]? = some me157 := rfl
theorem q157 (pc : Nat) : aCode 157 pc = (match aM157[pc]? with | some o => o | none => none) := rfl
abbrev me158 : aMe := (⟨"TypedTermReaderModel", "find", "([JI[JI)I"⟩, prog_13_method_7_code, 5, (some .int), true, 4, 11, false)
theorem m158 : aMeL[158]? = some me158 := rfl
theorem q158 (pc : Nat) : aCode 158 pc = (match aM158[pc]? with | some o => o | none => none) := rfl
abbrev me159 : aMe := (⟨"TypedTermReaderModel", "alike", "([JI[JI)Z"⟩, prog_13_method_5_code, 4, (some .boolean), true, 4, 11, false)
theorem m159 : aMeL[159]? = some me159 := rfl
theorem q159 (pc : Nat) : aCode 159 pc = (match aM159[pc]? with | some o => o | none => none) := rfl
abbrev me160 : aMe := (⟨"TypedTermReaderModel", "write", "([JI[JI)V"⟩, prog_13_method_6_code, 5, none, true, 4, 11, false)
theorem m160 : aMeL[160]? = some me160 := rfl
theorem q160 (pc : Nat) : aCode 160 pc = (match aM160[pc]? with | some o => o | none => none) := rfl
abbrev me161 : aMe := (⟨"TypedTermReaderModel", "scanNumeral", "()V"⟩, prog_13_method_18_code, 3, none, false, 1, 11, false)
theorem m161 : aMeL[161]? = some me161 := rfl
theorem q161 (pc : Nat) : aCode 161 pc = (match aM161[pc]? with | some o => o | none => none) := rfl
abbrev me162 : aMe := (⟨"TypedTermReaderModel", "scanSign", "(I)V"⟩, prog_13_method_16_code, 2, none, false, 2, 11, false)
theorem m162 : aMeL[162]? = some me162 := rfl
theorem q162 (pc : Nat) : aCode 162 pc = (match aM162[pc]? with | some o => o | none => none) := rfl
abbrev me163 : aMe := (⟨"TypedTermReaderModel", "readBinder", "(I)I"⟩, prog_13_method_42_code, 6, (some .int), false, 2, 11, false)
theorem m163 : aMeL[163]? = some me163 := rfl
theorem q163 (pc : Nat) : aCode 163 pc = (match aM163[pc]? with | some o => o | none => none) := rfl
abbrev me164 : aMe := (⟨"TypedTermReaderModel", "enter", "()V"⟩, prog_13_method_23_code, 1, none, false, 1, 11, false)
theorem m164 : aMeL[164]? = some me164 := rfl
theorem q164 (pc : Nat) : aCode 164 pc = (match aM164[pc]? with | some o => o | none => none) := rfl
abbrev me165 : aMe := (⟨"TypedTermReaderModel", "readVariable", "()V"⟩, prog_13_method_43_code, 2, none, false, 1, 11, false)
theorem m165 : aMeL[165]? = some me165 := rfl
theorem q165 (pc : Nat) : aCode 165 pc = (match aM165[pc]? with | some o => o | none => none) := rfl
abbrev me166 : aMe := (⟨"TypedTermReaderModel", "need", "(I)V"⟩, prog_13_method_21_code, 2, none, false, 2, 11, false)
theorem m166 : aMeL[166]? = some me166 := rfl
theorem q166 (pc : Nat) : aCode 166 pc = (match aM166[pc]? with | some o => o | none => none) := rfl
abbrev me167 : aMe := (⟨"TypedTermReaderModel", "readType", "()I"⟩, prog_13_method_26_code, 9, (some .int), false, 1, 11, false)
theorem m167 : aMeL[167]? = some me167 := rfl
theorem q167 (pc : Nat) : aCode 167 pc = (match aM167[pc]? with | some o => o | none => none) := rfl
abbrev me168 : aMe := (⟨"TypedTermReaderModel", "readTypeAtom", "()I"⟩, prog_13_method_28_code, 7, (some .int), false, 1, 11, false)
theorem m168 : aMeL[168]? = some me168 := rfl
theorem q168 (pc : Nat) : aCode 168 pc = (match aM168[pc]? with | some o => o | none => none) := rfl
abbrev me169 : aMe := (⟨"TypedTermReaderModel", "readInParentheses", "()I"⟩, prog_13_method_27_code, 2, (some .int), false, 1, 11, false)
theorem m169 : aMeL[169]? = some me169 := rfl
theorem q169 (pc : Nat) : aCode 169 pc = (match aM169[pc]? with | some o => o | none => none) := rfl
abbrev me170 : aMe := (⟨"TypedTermReaderModel", "written", "(II)I"⟩, prog_13_method_24_code, 3, (some .int), false, 3, 11, false)
theorem m170 : aMeL[170]? = some me170 := rfl
theorem q170 (pc : Nat) : aCode 170 pc = (match aM170[pc]? with | some o => o | none => none) := rfl
abbrev me171 : aMe := (⟨"TypedTermReaderModel", "takesBefore", "(II)V"⟩, prog_13_method_25_code, 4, none, false, 3, 11, false)
theorem m171 : aMeL[171]? = some me171 := rfl
theorem q171 (pc : Nat) : aCode 171 pc = (match aM171[pc]? with | some o => o | none => none) := rfl
abbrev me172 : aMe := (⟨"TypedTermReaderModel", "part", "(IIIIII)I"⟩, prog_13_method_29_code, 7, (some .int), false, 7, 11, false)
theorem m172 : aMeL[172]? = some me172 := rfl
theorem q172 (pc : Nat) : aCode 172 pc = (match aM172[pc]? with | some o => o | none => none) := rfl
abbrev me173 : aMe := (⟨"TypedTermReaderModel", "constantPart", "(IZ)I"⟩, prog_13_method_31_code, 3, (some .int), false, 3, 11, false)
theorem m173 : aMeL[173]? = some me173 := rfl
theorem q173 (pc : Nat) : aCode 173 pc = (match aM173[pc]? with | some o => o | none => none) := rfl
abbrev me174 : aMe := (⟨"TypedTermReaderModel", "applied", "(II)I"⟩, prog_13_method_32_code, 3, (some .int), false, 3, 11, false)
theorem m174 : aMeL[174]? = some me174 := rfl
theorem q174 (pc : Nat) : aCode 174 pc = (match aM174[pc]? with | some o => o | none => none) := rfl
abbrev me175 : aMe := (⟨"TypedTermReaderModel", "most", "(II)I"⟩, prog_13_method_30_code, 2, (some .int), true, 2, 11, false)
theorem m175 : aMeL[175]? = some me175 := rfl
theorem q175 (pc : Nat) : aCode 175 pc = (match aM175[pc]? with | some o => o | none => none) := rfl
abbrev me176 : aMe := (⟨"TypedTermReaderModel", "readAtoms", "()I"⟩, prog_13_method_39_code, 3, (some .int), false, 1, 11, false)
theorem m176 : aMeL[176]? = some me176 := rfl
theorem q176 (pc : Nat) : aCode 176 pc = (match aM176[pc]? with | some o => o | none => none) := rfl
abbrev me177 : aMe := (⟨"TypedTermReaderModel", "readAtom", "()I"⟩, prog_13_method_40_code, 3, (some .int), false, 1, 11, false)
theorem m177 : aMeL[177]? = some me177 := rfl
theorem q177 (pc : Nat) : aCode 177 pc = (match aM177[pc]? with | some o => o | none => none) := rfl
abbrev me178 : aMe := (⟨"TypedTermReaderModel", "isAtom", "(I)Z"⟩, prog_13_method_38_code, 1, (some .boolean), true, 1, 11, false)
theorem m178 : aMeL[178]? = some me178 := rfl
theorem q178 (pc : Nat) : aCode 178 pc = (match aM178[pc]? with | some o => o | none => none) := rfl
abbrev me179 : aMe := (⟨"TypedTermReaderModel", "readOpen", "()I"⟩, prog_13_method_41_code, 5, (some .int), false, 1, 11, false)
theorem m179 : aMeL[179]? = some me179 := rfl
theorem q179 (pc : Nat) : aCode 179 pc = (match aM179[pc]? with | some o => o | none => none) := rfl
abbrev me180 : aMe := (⟨"TypedTermReaderModel", "isOperator", "(I)Z"⟩, prog_13_method_33_code, 1, (some .boolean), true, 1, 11, false)
theorem m180 : aMeL[180]? = some me180 := rfl
theorem q180 (pc : Nat) : aCode 180 pc = (match aM180[pc]? with | some o => o | none => none) := rfl
abbrev me181 : aMe := (⟨"TypedTermReaderModel", "settled", "(III)I"⟩, prog_13_method_35_code, 6, (some .int), false, 4, 11, false)
theorem m181 : aMeL[181]? = some me181 := rfl
theorem q181 (pc : Nat) : aCode 181 pc = (match aM181[pc]? with | some o => o | none => none) := rfl
abbrev me182 : aMe := (⟨"TypedTermReaderModel", "strength", "(I)I"⟩, prog_13_method_34_code, 1, (some .int), true, 1, 11, false)
theorem m182 : aMeL[182]? = some me182 := rfl
theorem q182 (pc : Nat) : aCode 182 pc = (match aM182[pc]? with | some o => o | none => none) := rfl
abbrev me183 : aMe := (⟨"TypedTermReaderModel", "measure", "(I)V"⟩, prog_13_method_65_code, 2, none, false, 2, 11, false)
theorem m183 : aMeL[183]? = some me183 := rfl
theorem q183 (pc : Nat) : aCode 183 pc = (match aM183[pc]? with | some o => o | none => none) := rfl
abbrev me184 : aMe := (⟨"TypedTermReaderModel", "areNamed", "(I)Z"⟩, prog_13_method_54_code, 3, (some .boolean), false, 2, 11, false)
theorem m184 : aMeL[184]? = some me184 := rfl
theorem q184 (pc : Nat) : aCode 184 pc = (match aM184[pc]? with | some o => o | none => none) := rfl
abbrev me185 : aMe := (⟨"TypedTermReaderModel", "boundAt", "(I)I"⟩, prog_13_method_52_code, 3, (some .int), false, 2, 11, false)
theorem m185 : aMeL[185]? = some me185 := rfl
theorem q185 (pc : Nat) : aCode 185 pc = (match aM185[pc]? with | some o => o | none => none) := rfl
abbrev me186 : aMe := (⟨"TypedTermReaderModel", "constantOf", "(I)I"⟩, prog_13_method_53_code, 2, (some .int), false, 2, 11, false)
theorem m186 : aMeL[186]? = some me186 := rfl
theorem q186 (pc : Nat) : aCode 186 pc = (match aM186[pc]? with | some o => o | none => none) := rfl
abbrev me187 : aMe := (⟨"TypedTermReaderModel", "make", "(I)I"⟩, prog_13_method_57_code, 7, (some .int), false, 2, 11, false)
theorem m187 : aMeL[187]? = some me187 := rfl
theorem q187 (pc : Nat) : aCode 187 pc = (match aM187[pc]? with | some o => o | none => none) := rfl
abbrev me188 : aMe := (⟨"TypedTermReaderModel", "make", "(II)I"⟩, prog_13_method_55_code, 3, (some .int), false, 3, 11, false)
theorem m188 : aMeL[188]? = some me188 := rfl
theorem q188 (pc : Nat) : aCode 188 pc = (match aM188[pc]? with | some o => o | none => none) := rfl
abbrev me189 : aMe := (⟨"TypedTermReaderModel", "use", "(I)I"⟩, prog_13_method_50_code, 2, (some .int), false, 2, 11, false)
theorem m189 : aMeL[189]? = some me189 := rfl
theorem q189 (pc : Nat) : aCode 189 pc = (match aM189[pc]? with | some o => o | none => none) := rfl
abbrev me190 : aMe := (⟨"TypedTermReaderModel", "copy", "(I)I"⟩, prog_13_method_49_code, 4, (some .int), false, 2, 11, false)
theorem m190 : aMeL[190]? = some me190 := rfl
theorem q190 (pc : Nat) : aCode 190 pc = (match aM190[pc]? with | some o => o | none => none) := rfl
abbrev me191 : aMe := (⟨"TypedTermReaderModel", "unknown", "()I"⟩, prog_13_method_45_code, 1, (some .int), false, 1, 11, false)
theorem m191 : aMeL[191]? = some me191 := rfl
theorem q191 (pc : Nat) : aCode 191 pc = (match aM191[pc]? with | some o => o | none => none) := rfl
abbrev me192 : aMe := (⟨"TypedTermReaderModel", "makeConstant", "(I)I"⟩, prog_13_method_58_code, 4, (some .int), false, 2, 11, false)
theorem m192 : aMeL[192]? = some me192 := rfl
theorem q192 (pc : Nat) : aCode 192 pc = (match aM192[pc]? with | some o => o | none => none) := rfl
abbrev me193 : aMe := (⟨"TypedTermReaderModel", "join", "(II)V"⟩, prog_13_method_48_code, 7, none, false, 3, 11, false)
theorem m193 : aMeL[193]? = some me193 := rfl
theorem q193 (pc : Nat) : aCode 193 pc = (match aM193[pc]? with | some o => o | none => none) := rfl
abbrev me194 : aMe := (⟨"TypedTermReaderModel", "last", "(I)I"⟩, prog_13_method_47_code, 3, (some .int), false, 2, 11, false)
theorem m194 : aMeL[194]? = some me194 := rfl
theorem q194 (pc : Nat) : aCode 194 pc = (match aM194[pc]? with | some o => o | none => none) := rfl
abbrev me195 : aMe := (⟨"TypedTermReaderModel", "makeNumeral", "(I)I"⟩, prog_13_method_56_code, 4, (some .int), false, 2, 11, false)
theorem m195 : aMeL[195]? = some me195 := rfl
theorem q195 (pc : Nat) : aCode 195 pc = (match aM195[pc]? with | some o => o | none => none) := rfl
abbrev me196 : aMe := (⟨"TypedTermReaderModel", "makeAbstraction", "(I)I"⟩, prog_13_method_59_code, 5, (some .int), false, 2, 11, false)
theorem m196 : aMeL[196]? = some me196 := rfl
theorem q196 (pc : Nat) : aCode 196 pc = (match aM196[pc]? with | some o => o | none => none) := rfl
abbrev me197 : aMe := (⟨"TypedTermReaderModel", "meant", "(I)I"⟩, prog_13_method_51_code, 6, (some .int), false, 2, 11, false)
theorem m197 : aMeL[197]? = some me197 := rfl
theorem q197 (pc : Nat) : aCode 197 pc = (match aM197[pc]? with | some o => o | none => none) := rfl
abbrev me198 : aMe := (⟨"TypedTermReaderModel", "weighAll", "()V"⟩, prog_13_method_61_code, 3, none, false, 1, 11, false)
theorem m198 : aMeL[198]? = some me198 := rfl
theorem q198 (pc : Nat) : aCode 198 pc = (match aM198[pc]? with | some o => o | none => none) := rfl
abbrev me199 : aMe := (⟨"TypedTermReaderModel", "weigh", "(I)V"⟩, prog_13_method_60_code, 7, none, false, 2, 11, false)
theorem m199 : aMeL[199]? = some me199 := rfl
theorem q199 (pc : Nat) : aCode 199 pc = (match aM199[pc]? with | some o => o | none => none) := rfl
abbrev me200 : aMe := (⟨"TypedTermReaderModel", "keepTerm", "()V"⟩, prog_13_method_63_code, 2, none, false, 1, 11, false)
theorem m200 : aMeL[200]? = some me200 := rfl
theorem q200 (pc : Nat) : aCode 200 pc = (match aM200[pc]? with | some o => o | none => none) := rfl
abbrev me201 : aMe := (⟨"TypedTermReaderModel", "writeRow", "(II)I"⟩, prog_13_method_62_code, 6, (some .int), false, 3, 11, false)
theorem m201 : aMeL[201]? = some me201 := rfl
theorem q201 (pc : Nat) : aCode 201 pc = (match aM201[pc]? with | some o => o | none => none) := rfl
abbrev me202 : aMe := (⟨"TypedTermReaderModel", "constant", "(I)I"⟩, prog_13_method_67_code, 6, (some .int), false, 2, 11, false)
theorem m202 : aMeL[202]? = some me202 := rfl
theorem q202 (pc : Nat) : aCode 202 pc = (match aM202[pc]? with | some o => o | none => none) := rfl
abbrev me203 : aMe := (⟨"TypedTermReaderModel", "type", "(I)I"⟩, prog_13_method_68_code, 3, (some .int), false, 2, 11, false)
theorem m203 : aMeL[203]? = some me203 := rfl
theorem q203 (pc : Nat) : aCode 203 pc = (match aM203[pc]? with | some o => o | none => none) := rfl
abbrev me204 : aMe := (⟨"TypedTermReaderModel", "fault", "()I"⟩, prog_13_method_69_code, 1, (some .int), false, 1, 11, false)
theorem m204 : aMeL[204]? = some me204 := rfl
theorem q204 (pc : Nat) : aCode 204 pc = (match aM204[pc]? with | some o => o | none => none) := rfl
abbrev me205 : aMe := (⟨"TypedTermReaderModel", "place", "()I"⟩, prog_13_method_70_code, 1, (some .int), false, 1, 11, false)
theorem m205 : aMeL[205]? = some me205 := rfl
theorem q205 (pc : Nat) : aCode 205 pc = (match aM205[pc]? with | some o => o | none => none) := rfl
abbrev me206 : aMe := (⟨"TypedTermReaderModel", "symbol", "(I)I"⟩, prog_13_method_71_code, 2, (some .int), false, 2, 11, false)
theorem m206 : aMeL[206]? = some me206 := rfl
theorem q206 (pc : Nat) : aCode 206 pc = (match aM206[pc]? with | some o => o | none => none) := rfl
abbrev me207 : aMe := (⟨"TypedTermReaderModel", "typeSymbol", "(II)I"⟩, prog_13_method_72_code, 3, (some .int), false, 3, 11, false)
theorem m207 : aMeL[207]? = some me207 := rfl
theorem q207 (pc : Nat) : aCode 207 pc = (match aM207[pc]? with | some o => o | none => none) := rfl
