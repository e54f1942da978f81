/-! ===== where the cells lie behind both constructors: printed by wip/gen/layout.py ===== -/
def Lws (M : MM) (a : Nat) : Prop := ob M a 2 ∧ mr M a 0 = some (a + 1) ∧ ar M (a + 1) 1 1000 ∧ mr M a 2 = some (a + 2) ∧ ar M (a + 2) 1 6 ∧ mr M a 3 = some (a + 3) ∧ ar M (a + 3) 1 24
theorem Lws.o {M : MM} {a : Nat} (h : Lws M a) : ob M a 2 := h.1
theorem Lws.r0 {M : MM} {a : Nat} (h : Lws M a) : mr M a 0 = some (a + 1) := h.2.1
theorem Lws.a0 {M : MM} {a : Nat} (h : Lws M a) : ar M (a + 1) 1 1000 := h.2.2.1
theorem Lws.r2 {M : MM} {a : Nat} (h : Lws M a) : mr M a 2 = some (a + 2) := h.2.2.2.1
theorem Lws.a2 {M : MM} {a : Nat} (h : Lws M a) : ar M (a + 2) 1 6 := h.2.2.2.2.1
theorem Lws.r3 {M : MM} {a : Nat} (h : Lws M a) : mr M a 3 = some (a + 3) := h.2.2.2.2.2.1
theorem Lws.a3 {M : MM} {a : Nat} (h : Lws M a) : ar M (a + 3) 1 24 := h.2.2.2.2.2.2
def Pln (M : MM) (a : Nat) : Prop := ob M a 5 ∧ mr M a 1 = some (a + 1) ∧ ar M (a + 1) 1 40 ∧ mr M a 2 = some (a + 2) ∧ ar M (a + 2) 1 40 ∧ mr M a 3 = some (a + 3) ∧ ar M (a + 3) 1 40 ∧ mr M a 4 = some (a + 4) ∧ ar M (a + 4) 1 40
theorem Pln.o {M : MM} {a : Nat} (h : Pln M a) : ob M a 5 := h.1
theorem Pln.r1 {M : MM} {a : Nat} (h : Pln M a) : mr M a 1 = some (a + 1) := h.2.1
theorem Pln.a1 {M : MM} {a : Nat} (h : Pln M a) : ar M (a + 1) 1 40 := h.2.2.1
theorem Pln.r2 {M : MM} {a : Nat} (h : Pln M a) : mr M a 2 = some (a + 2) := h.2.2.2.1
theorem Pln.a2 {M : MM} {a : Nat} (h : Pln M a) : ar M (a + 2) 1 40 := h.2.2.2.2.1
theorem Pln.r3 {M : MM} {a : Nat} (h : Pln M a) : mr M a 3 = some (a + 3) := h.2.2.2.2.2.1
theorem Pln.a3 {M : MM} {a : Nat} (h : Pln M a) : ar M (a + 3) 1 40 := h.2.2.2.2.2.2.1
theorem Pln.r4 {M : MM} {a : Nat} (h : Pln M a) : mr M a 4 = some (a + 4) := h.2.2.2.2.2.2.2.1
theorem Pln.a4 {M : MM} {a : Nat} (h : Pln M a) : ar M (a + 4) 1 40 := h.2.2.2.2.2.2.2.2
def Trv (M : MM) (a : Nat) : Prop := ob M a 10 ∧ mr M a 1 = some (a + 1) ∧ ar M (a + 1) 1 6
theorem Trv.o {M : MM} {a : Nat} (h : Trv M a) : ob M a 10 := h.1
theorem Trv.r1 {M : MM} {a : Nat} (h : Trv M a) : mr M a 1 = some (a + 1) := h.2.1
theorem Trv.a1 {M : MM} {a : Nat} (h : Trv M a) : ar M (a + 1) 1 6 := h.2.2
def Sgt (M : MM) (a : Nat) : Prop := ob M a 8 ∧ mr M a 0 = some (a + 1) ∧ ar M (a + 1) 1 8 ∧ mr M a 1 = some (a + 2) ∧ ar M (a + 2) 3 8
theorem Sgt.o {M : MM} {a : Nat} (h : Sgt M a) : ob M a 8 := h.1
theorem Sgt.r0 {M : MM} {a : Nat} (h : Sgt M a) : mr M a 0 = some (a + 1) := h.2.1
theorem Sgt.a0 {M : MM} {a : Nat} (h : Sgt M a) : ar M (a + 1) 1 8 := h.2.2.1
theorem Sgt.r1 {M : MM} {a : Nat} (h : Sgt M a) : mr M a 1 = some (a + 2) := h.2.2.2.1
theorem Sgt.a1 {M : MM} {a : Nat} (h : Sgt M a) : ar M (a + 2) 3 8 := h.2.2.2.2
def Cty (M : MM) (a : Nat) : Prop := ob M a 0 ∧ mr M a 1 = some (a + 1) ∧ ar M (a + 1) 2 10 ∧ mr M a 2 = some (a + 2) ∧ ar M (a + 2) 1 10 ∧ mr M a 3 = some (a + 3) ∧ ar M (a + 3) 1 10 ∧ mr M a 4 = some (a + 4) ∧ ar M (a + 4) 1 10 ∧ mr M a 6 = some (a + 5) ∧ ar M (a + 5) 2 6 ∧ mr M a 7 = some (a + 6) ∧ ar M (a + 6) 1 6 ∧ mr M a 8 = some (a + 7) ∧ Lws M (a + 7) ∧ mr M a 9 = some (a + 11) ∧ ar M (a + 11) 1 600
theorem Cty.o {M : MM} {a : Nat} (h : Cty M a) : ob M a 0 := h.1
theorem Cty.r1 {M : MM} {a : Nat} (h : Cty M a) : mr M a 1 = some (a + 1) := h.2.1
theorem Cty.a1 {M : MM} {a : Nat} (h : Cty M a) : ar M (a + 1) 2 10 := h.2.2.1
theorem Cty.r2 {M : MM} {a : Nat} (h : Cty M a) : mr M a 2 = some (a + 2) := h.2.2.2.1
theorem Cty.a2 {M : MM} {a : Nat} (h : Cty M a) : ar M (a + 2) 1 10 := h.2.2.2.2.1
theorem Cty.r3 {M : MM} {a : Nat} (h : Cty M a) : mr M a 3 = some (a + 3) := h.2.2.2.2.2.1
theorem Cty.a3 {M : MM} {a : Nat} (h : Cty M a) : ar M (a + 3) 1 10 := h.2.2.2.2.2.2.1
theorem Cty.r4 {M : MM} {a : Nat} (h : Cty M a) : mr M a 4 = some (a + 4) := h.2.2.2.2.2.2.2.1
theorem Cty.a4 {M : MM} {a : Nat} (h : Cty M a) : ar M (a + 4) 1 10 := h.2.2.2.2.2.2.2.2.1
theorem Cty.r6 {M : MM} {a : Nat} (h : Cty M a) : mr M a 6 = some (a + 5) := h.2.2.2.2.2.2.2.2.2.1
theorem Cty.a6 {M : MM} {a : Nat} (h : Cty M a) : ar M (a + 5) 2 6 := h.2.2.2.2.2.2.2.2.2.2.1
theorem Cty.r7 {M : MM} {a : Nat} (h : Cty M a) : mr M a 7 = some (a + 6) := h.2.2.2.2.2.2.2.2.2.2.2.1
theorem Cty.a7 {M : MM} {a : Nat} (h : Cty M a) : ar M (a + 6) 1 6 := h.2.2.2.2.2.2.2.2.2.2.2.2.1
theorem Cty.r8 {M : MM} {a : Nat} (h : Cty M a) : mr M a 8 = some (a + 7) := h.2.2.2.2.2.2.2.2.2.2.2.2.2.1
theorem Cty.a8 {M : MM} {a : Nat} (h : Cty M a) : Lws M (a + 7) := h.2.2.2.2.2.2.2.2.2.2.2.2.2.2.1
theorem Cty.r9 {M : MM} {a : Nat} (h : Cty M a) : mr M a 9 = some (a + 11) := h.2.2.2.2.2.2.2.2.2.2.2.2.2.2.2.1
theorem Cty.a9 {M : MM} {a : Nat} (h : Cty M a) : ar M (a + 11) 1 600 := h.2.2.2.2.2.2.2.2.2.2.2.2.2.2.2.2
def Mrk (M : MM) (a : Nat) : Prop := ob M a 3 ∧ mr M a 1 = some (a + 1) ∧ Trv M (a + 1) ∧ mr M a 2 = some (a + 3) ∧ Pln M (a + 3) ∧ mr M a 3 = some (a + 8) ∧ Sgt M (a + 8)
theorem Mrk.o {M : MM} {a : Nat} (h : Mrk M a) : ob M a 3 := h.1
theorem Mrk.r1 {M : MM} {a : Nat} (h : Mrk M a) : mr M a 1 = some (a + 1) := h.2.1
theorem Mrk.a1 {M : MM} {a : Nat} (h : Mrk M a) : Trv M (a + 1) := h.2.2.1
theorem Mrk.r2 {M : MM} {a : Nat} (h : Mrk M a) : mr M a 2 = some (a + 3) := h.2.2.2.1
theorem Mrk.a2 {M : MM} {a : Nat} (h : Mrk M a) : Pln M (a + 3) := h.2.2.2.2.1
theorem Mrk.r3 {M : MM} {a : Nat} (h : Mrk M a) : mr M a 3 = some (a + 8) := h.2.2.2.2.2.1
theorem Mrk.a3 {M : MM} {a : Nat} (h : Mrk M a) : Sgt M (a + 8) := h.2.2.2.2.2.2
def SHT : List (Nat × Nat) := [(0, 11), (0, 0), (2, 10), (1, 10), (1, 10), (1, 10), (2, 6), (1, 6), (0, 2), (1, 1000), (1, 6), (1, 24), (1, 600), (0, 0), (2, 10), (1, 10), (1, 10), (1, 10), (2, 6), (1, 6), (0, 2), (1, 1000), (1, 6), (1, 24), (1, 600), (0, 9), (2, 21), (4, 1000), (0, 7), (0, 5), (1, 40), (1, 40), (1, 40), (1, 40), (0, 5), (1, 40), (1, 40), (1, 40), (1, 40), (0, 10), (1, 6), (0, 10), (1, 6), (0, 4), (6, 16), (0, 10), (1, 6), (0, 10), (1, 6), (0, 10), (1, 6), (0, 10), (1, 6), (0, 10), (1, 6), (0, 10), (1, 6), (0, 10), (1, 6), (0, 10), (1, 6), (0, 10), (1, 6), (0, 10), (1, 6), (0, 10), (1, 6), (0, 10), (1, 6), (0, 10), (1, 6), (0, 10), (1, 6), (0, 10), (1, 6), (0, 10), (1, 6), (0, 8), (1, 8), (3, 8), (5, 4), (0, 3), (0, 10), (1, 6), (0, 5), (1, 40), (1, 40), (1, 40), (1, 40), (0, 8), (1, 8), (3, 8), (0, 3), (0, 10), (1, 6), (0, 5), (1, 40), (1, 40), (1, 40), (1, 40), (0, 8), (1, 8), (3, 8), (0, 3), (0, 10), (1, 6), (0, 5), (1, 40), (1, 40), (1, 40), (1, 40), (0, 8), (1, 8), (3, 8), (0, 3), (0, 10), (1, 6), (0, 5), (1, 40), (1, 40), (1, 40), (1, 40), (0, 8), (1, 8), (3, 8), (0, 6), (1, 6), (1, 6), (0, 1), (1, 6), (0, 12), (1, 1000), (1, 4), (2, 20), (2, 12), (1, 20), (1, 20), (1, 20), (1, 12), (1, 12), (1, 12), (1, 2000), (1, 7), (3, 7), (1, 7), (1, 7), (1, 7), (1, 7), (1, 7), (1, 7), (1, 7), (1, 7), (1, 7), (1, 20), (1, 6), (1, 240), (1, 240), (1, 240), (1, 240), (1, 5), (1, 40), (3, 40), (1, 19), (1, 19), (1, 19), (1, 76), (1, 304), (3, 4), (1, 6), (1, 10), (1, 6), (1, 6), (2, 1)]
def SHa (a : Nat) : Nat × Nat := SHT.getD a (9, 9)
def RST : List (Nat × Nat × Nat) := [(0, 0, 25), (0, 1, 28), (0, 6, 39), (0, 7, 41), (0, 8, 43), (0, 9, 77), (0, 10, 80), (0, 11, 125), (0, 12, 128), (0, 13, 129), (1, 1, 2), (1, 2, 3), (1, 3, 4), (1, 4, 5), (1, 6, 6), (1, 7, 7), (1, 8, 8), (1, 9, 12), (8, 0, 9), (8, 2, 10), (8, 3, 11), (13, 1, 14), (13, 2, 15), (13, 3, 16), (13, 4, 17), (13, 6, 18), (13, 7, 19), (13, 8, 20), (13, 9, 24), (20, 0, 21), (20, 2, 22), (20, 3, 23), (25, 0, 26), (25, 1, 27), (28, 0, 25), (29, 1, 30), (29, 2, 31), (29, 3, 32), (29, 4, 33), (34, 1, 35), (34, 2, 36), (34, 3, 37), (34, 4, 38), (39, 1, 40), (41, 1, 42), (43, 0, 44), (44, 0, 45), (44, 1, 47), (44, 2, 49), (44, 3, 51), (44, 4, 53), (44, 5, 55), (44, 6, 57), (44, 7, 59), (44, 8, 61), (44, 9, 63), (44, 10, 65), (44, 11, 67), (44, 12, 69), (44, 13, 71), (44, 14, 73), (44, 15, 75), (45, 1, 46), (47, 1, 48), (49, 1, 50), (51, 1, 52), (53, 1, 54), (55, 1, 56), (57, 1, 58), (59, 1, 60), (61, 1, 62), (63, 1, 64), (65, 1, 66), (67, 1, 68), (69, 1, 70), (71, 1, 72), (73, 1, 74), (75, 1, 76), (77, 0, 78), (77, 1, 79), (80, 0, 81), (80, 1, 92), (80, 2, 103), (80, 3, 114), (81, 1, 82), (81, 2, 84), (81, 3, 89), (82, 1, 83), (84, 1, 85), (84, 2, 86), (84, 3, 87), (84, 4, 88), (89, 0, 90), (89, 1, 91), (92, 1, 93), (92, 2, 95), (92, 3, 100), (93, 1, 94), (95, 1, 96), (95, 2, 97), (95, 3, 98), (95, 4, 99), (100, 0, 101), (100, 1, 102), (103, 1, 104), (103, 2, 106), (103, 3, 111), (104, 1, 105), (106, 1, 107), (106, 2, 108), (106, 3, 109), (106, 4, 110), (111, 0, 112), (111, 1, 113), (114, 1, 115), (114, 2, 117), (114, 3, 122), (115, 1, 116), (117, 1, 118), (117, 2, 119), (117, 3, 120), (117, 4, 121), (122, 0, 123), (122, 1, 124), (125, 0, 126), (125, 1, 127), (130, 2, 131), (130, 10, 132), (130, 11, 133), (130, 12, 134), (130, 13, 135), (130, 14, 136), (130, 15, 137), (130, 16, 138), (130, 17, 139), (130, 18, 140), (130, 19, 141), (130, 21, 142), (130, 22, 143), (130, 23, 144), (130, 24, 145), (130, 25, 146), (130, 26, 147), (130, 27, 148), (130, 28, 149), (130, 29, 150), (130, 30, 151), (130, 31, 152), (130, 32, 153), (130, 35, 154), (130, 36, 155), (130, 37, 156), (130, 38, 157), (130, 39, 158), (130, 40, 159), (130, 41, 160), (130, 42, 161), (130, 43, 162), (130, 44, 163), (130, 45, 164), (130, 46, 165), (130, 47, 166), (130, 48, 167), (130, 50, 168), (130, 51, 169), (130, 54, 170), (130, 55, 171)]
/-- the layout; la: the county's cell, lb: the draft's; pa, pb: the round's and its draft's; rl: the reader's county -/
def Lay (M : MM) (la lb pa pb rl : Nat) : Prop := 173 ≤ mn M ∧ (∀ a, a < 173 → mh M a = SHa a) ∧ (∀ q ∈ RST, mr M q.1 q.2.1 = some q.2.2) ∧ ((la = 1 ∧ lb = 13) ∨ (la = 13 ∧ lb = 1)) ∧ ((pa = 29 ∧ pb = 34) ∨ (pa = 34 ∧ pb = 29)) ∧ mr M 0 2 = some la ∧ mr M 0 3 = some lb ∧ mr M 0 4 = some pa ∧ mr M 0 5 = some pb ∧ mr M 28 1 = some rl ∧ (rl = 1 ∨ rl = 13)
section LAY
variable {M : MM} {la lb pa pb rl : Nat}
theorem SHa_lt {a t n : Nat} (h : SHa a = (t, n)) (ht : t < 9) : a < 173 := by
  rcases Nat.lt_or_ge a 173 with q | q
  · exact q
  · exfalso
    unfold SHa at h
    rw [List.getD_eq_getElem?_getD, List.getElem?_eq_none (show SHT.length ≤ a from q)] at h
    have h1 := congrArg Prod.fst h
    have h1 : (9 : Nat) = t := h1
    omega
theorem Lay.s (L : Lay M la lb pa pb rl) {a t n : Nat} (h : SHa a = (t, n)) (ht : t < 9) : ar M a t n := by
  have h1 := SHa_lt h ht
  exact ⟨Nat.lt_of_lt_of_le h1 L.1, (L.2.1 a h1).trans h⟩
theorem Lay.r (L : Lay M la lb pa pb rl) {a k b : Nat} (i : Nat) (h : RST[i]? = some (a, k, b)) : mr M a k = some b := L.2.2.1 _ (List.mem_of_getElem? h)
theorem Lay.rla (L : Lay M la lb pa pb rl) : mr M 0 2 = some la := L.2.2.2.2.2.1
theorem Lay.rlb (L : Lay M la lb pa pb rl) : mr M 0 3 = some lb := L.2.2.2.2.2.2.1
theorem Lay.rpa (L : Lay M la lb pa pb rl) : mr M 0 4 = some pa := L.2.2.2.2.2.2.2.1
theorem Lay.rpb (L : Lay M la lb pa pb rl) : mr M 0 5 = some pb := L.2.2.2.2.2.2.2.2.1
theorem Lay.rrl (L : Lay M la lb pa pb rl) : mr M 28 1 = some rl := L.2.2.2.2.2.2.2.2.2.1
theorem Lay.cA (L : Lay M la lb pa pb rl) : Cty M 1 := ⟨L.s rfl (by decide), L.r 10 rfl, L.s rfl (by decide), L.r 11 rfl, L.s rfl (by decide), L.r 12 rfl, L.s rfl (by decide), L.r 13 rfl, L.s rfl (by decide), L.r 14 rfl, L.s rfl (by decide), L.r 15 rfl, L.s rfl (by decide), L.r 16 rfl, ⟨L.s rfl (by decide), L.r 18 rfl, L.s rfl (by decide), L.r 19 rfl, L.s rfl (by decide), L.r 20 rfl, L.s rfl (by decide)⟩, L.r 17 rfl, L.s rfl (by decide)⟩
theorem Lay.cB (L : Lay M la lb pa pb rl) : Cty M 13 := ⟨L.s rfl (by decide), L.r 21 rfl, L.s rfl (by decide), L.r 22 rfl, L.s rfl (by decide), L.r 23 rfl, L.s rfl (by decide), L.r 24 rfl, L.s rfl (by decide), L.r 25 rfl, L.s rfl (by decide), L.r 26 rfl, L.s rfl (by decide), L.r 27 rfl, ⟨L.s rfl (by decide), L.r 29 rfl, L.s rfl (by decide), L.r 30 rfl, L.s rfl (by decide), L.r 31 rfl, L.s rfl (by decide)⟩, L.r 28 rfl, L.s rfl (by decide)⟩
theorem Lay.pA (L : Lay M la lb pa pb rl) : Pln M 29 := ⟨L.s rfl (by decide), L.r 35 rfl, L.s rfl (by decide), L.r 36 rfl, L.s rfl (by decide), L.r 37 rfl, L.s rfl (by decide), L.r 38 rfl, L.s rfl (by decide)⟩
theorem Lay.pB (L : Lay M la lb pa pb rl) : Pln M 34 := ⟨L.s rfl (by decide), L.r 39 rfl, L.s rfl (by decide), L.r 40 rfl, L.s rfl (by decide), L.r 41 rfl, L.s rfl (by decide), L.r 42 rfl, L.s rfl (by decide)⟩
theorem Lay.tn (L : Lay M la lb pa pb rl) : Trv M 39 := ⟨L.s rfl (by decide), L.r 43 rfl, L.s rfl (by decide)⟩
theorem Lay.tt (L : Lay M la lb pa pb rl) : Trv M 41 := ⟨L.s rfl (by decide), L.r 44 rfl, L.s rfl (by decide)⟩
theorem Lay.sg (L : Lay M la lb pa pb rl) : Sgt M 77 := ⟨L.s rfl (by decide), L.r 78 rfl, L.s rfl (by decide), L.r 79 rfl, L.s rfl (by decide)⟩
theorem Lay.cla (L : Lay M la lb pa pb rl) : Cty M la := by rcases L.2.2.2.1 with ⟨rfl, -⟩ | ⟨rfl, -⟩; exact L.cA; exact L.cB
theorem Lay.clb (L : Lay M la lb pa pb rl) : Cty M lb := by rcases L.2.2.2.1 with ⟨-, rfl⟩ | ⟨-, rfl⟩; exact L.cB; exact L.cA
theorem Lay.crl (L : Lay M la lb pa pb rl) : Cty M rl := by rcases L.2.2.2.2.2.2.2.2.2.2 with rfl | rfl; exact L.cA; exact L.cB
theorem Lay.ppa (L : Lay M la lb pa pb rl) : Pln M pa := by rcases L.2.2.2.2.1 with ⟨rfl, -⟩ | ⟨rfl, -⟩; exact L.pA; exact L.pB
theorem Lay.ppb (L : Lay M la lb pa pb rl) : Pln M pb := by rcases L.2.2.2.2.1 with ⟨-, rfl⟩ | ⟨-, rfl⟩; exact L.pB; exact L.pA
theorem Lay.kept (L : Lay M la lb pa pb rl) {i : Nat} (h : i < 16) : mr M 44 i = some (45 + 2 * i) ∧ Trv M (45 + 2 * i) := by
  match i, h with
  | 0, _ => exact ⟨L.r 46 rfl, ⟨L.s rfl (by decide), L.r 62 rfl, L.s rfl (by decide)⟩⟩
  | 1, _ => exact ⟨L.r 47 rfl, ⟨L.s rfl (by decide), L.r 63 rfl, L.s rfl (by decide)⟩⟩
  | 2, _ => exact ⟨L.r 48 rfl, ⟨L.s rfl (by decide), L.r 64 rfl, L.s rfl (by decide)⟩⟩
  | 3, _ => exact ⟨L.r 49 rfl, ⟨L.s rfl (by decide), L.r 65 rfl, L.s rfl (by decide)⟩⟩
  | 4, _ => exact ⟨L.r 50 rfl, ⟨L.s rfl (by decide), L.r 66 rfl, L.s rfl (by decide)⟩⟩
  | 5, _ => exact ⟨L.r 51 rfl, ⟨L.s rfl (by decide), L.r 67 rfl, L.s rfl (by decide)⟩⟩
  | 6, _ => exact ⟨L.r 52 rfl, ⟨L.s rfl (by decide), L.r 68 rfl, L.s rfl (by decide)⟩⟩
  | 7, _ => exact ⟨L.r 53 rfl, ⟨L.s rfl (by decide), L.r 69 rfl, L.s rfl (by decide)⟩⟩
  | 8, _ => exact ⟨L.r 54 rfl, ⟨L.s rfl (by decide), L.r 70 rfl, L.s rfl (by decide)⟩⟩
  | 9, _ => exact ⟨L.r 55 rfl, ⟨L.s rfl (by decide), L.r 71 rfl, L.s rfl (by decide)⟩⟩
  | 10, _ => exact ⟨L.r 56 rfl, ⟨L.s rfl (by decide), L.r 72 rfl, L.s rfl (by decide)⟩⟩
  | 11, _ => exact ⟨L.r 57 rfl, ⟨L.s rfl (by decide), L.r 73 rfl, L.s rfl (by decide)⟩⟩
  | 12, _ => exact ⟨L.r 58 rfl, ⟨L.s rfl (by decide), L.r 74 rfl, L.s rfl (by decide)⟩⟩
  | 13, _ => exact ⟨L.r 59 rfl, ⟨L.s rfl (by decide), L.r 75 rfl, L.s rfl (by decide)⟩⟩
  | 14, _ => exact ⟨L.r 60 rfl, ⟨L.s rfl (by decide), L.r 76 rfl, L.s rfl (by decide)⟩⟩
  | 15, _ => exact ⟨L.r 61 rfl, ⟨L.s rfl (by decide), L.r 77 rfl, L.s rfl (by decide)⟩⟩
  | i + 16, h => exact absurd h (by omega)
theorem Lay.marks (L : Lay M la lb pa pb rl) {i : Nat} (h : i < 4) : mr M 80 i = some (81 + 11 * i) ∧ Mrk M (81 + 11 * i) := by
  match i, h with
  | 0, _ => exact ⟨L.r 80 rfl, ⟨L.s rfl (by decide), L.r 84 rfl, ⟨L.s rfl (by decide), L.r 87 rfl, L.s rfl (by decide)⟩, L.r 85 rfl, ⟨L.s rfl (by decide), L.r 88 rfl, L.s rfl (by decide), L.r 89 rfl, L.s rfl (by decide), L.r 90 rfl, L.s rfl (by decide), L.r 91 rfl, L.s rfl (by decide)⟩, L.r 86 rfl, ⟨L.s rfl (by decide), L.r 92 rfl, L.s rfl (by decide), L.r 93 rfl, L.s rfl (by decide)⟩⟩⟩
  | 1, _ => exact ⟨L.r 81 rfl, ⟨L.s rfl (by decide), L.r 94 rfl, ⟨L.s rfl (by decide), L.r 97 rfl, L.s rfl (by decide)⟩, L.r 95 rfl, ⟨L.s rfl (by decide), L.r 98 rfl, L.s rfl (by decide), L.r 99 rfl, L.s rfl (by decide), L.r 100 rfl, L.s rfl (by decide), L.r 101 rfl, L.s rfl (by decide)⟩, L.r 96 rfl, ⟨L.s rfl (by decide), L.r 102 rfl, L.s rfl (by decide), L.r 103 rfl, L.s rfl (by decide)⟩⟩⟩
  | 2, _ => exact ⟨L.r 82 rfl, ⟨L.s rfl (by decide), L.r 104 rfl, ⟨L.s rfl (by decide), L.r 107 rfl, L.s rfl (by decide)⟩, L.r 105 rfl, ⟨L.s rfl (by decide), L.r 108 rfl, L.s rfl (by decide), L.r 109 rfl, L.s rfl (by decide), L.r 110 rfl, L.s rfl (by decide), L.r 111 rfl, L.s rfl (by decide)⟩, L.r 106 rfl, ⟨L.s rfl (by decide), L.r 112 rfl, L.s rfl (by decide), L.r 113 rfl, L.s rfl (by decide)⟩⟩⟩
  | 3, _ => exact ⟨L.r 83 rfl, ⟨L.s rfl (by decide), L.r 114 rfl, ⟨L.s rfl (by decide), L.r 117 rfl, L.s rfl (by decide)⟩, L.r 115 rfl, ⟨L.s rfl (by decide), L.r 118 rfl, L.s rfl (by decide), L.r 119 rfl, L.s rfl (by decide), L.r 120 rfl, L.s rfl (by decide), L.r 121 rfl, L.s rfl (by decide)⟩, L.r 116 rfl, ⟨L.s rfl (by decide), L.r 122 rfl, L.s rfl (by decide), L.r 123 rfl, L.s rfl (by decide)⟩⟩⟩
  | i + 4, h => exact absurd h (by omega)
/-- the layout depends on shapes and references alone -/
theorem Lay.to {M' : MM} (L : Lay M la lb pa pb rl) (hn : mn M' = mn M) (hh : mh M' = mh M) (hr : mr M' = mr M) : Lay M' la lb pa pb rl := by
  unfold Lay
  rw [hn, hh, hr]
  exact L
end LAY
