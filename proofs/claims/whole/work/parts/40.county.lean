/-! ===== contracts of CountyPrint$County: what it answers, in words of its cells ===== -/
def sMin (len : Nat → Int32) (row : Int32) : Nat → Int32
  | 0 => 0
  | k + 1 => sMin len row k + (if bt row k then len k else 0)
/-- the first of n names from i on -/
def sNm (nm : Nat → Int64) (x : Int64) : Nat → Nat → Int32
  | 0, _ => -1
  | j + 1, i => if nm i = x then nI i else sNm nm x j (i + 1)
def sOkN (nd row : Int32) (i : Nat) : Bool := decide ((nd &&& ((row &&& (((1 : Int32) <<< (nI i &&& 31)) - 1)) ^^^ (-1))) = 0)
def sSn (nds : Nat → Int32) (row : Int32) : Nat → Nat → Bool
  | 0, _ => true
  | j + 1, i => (!bt row i || sOkN (nds i) row i) && sSn nds row j (i + 1)
/-- the x-th shot of a row, pl of which stand ahead of i -/
def sAt (row x : Int32) : Nat → Nat → Int32 → Int32
  | 0, _, _ => -1
  | j + 1, i, pl => if bt row i then (if pl = x then nI i else sAt row x j (i + 1) (pl + 1)) else sAt row x j (i + 1) pl
def sSort (srt : Nat → Int32) (x : Int32) : Nat → Int32
  | 0 => 0
  | k + 1 => if srt k = x then sSort srt x k ||| ((1 : Int32) <<< (nI k &&& 31)) else sSort srt x k
def sLast (row : Int32) : Nat → Int32
  | 0 => 0
  | k + 1 => if bt row k then (1 : Int32) <<< (nI k &&& 31) else sLast row k
/-- what stands behind one of set in row: found so far, whether the last one is of set -/
def sBeh (set row : Int32) : Nat → Int32 × Bool
  | 0 => (0, false)
  | k + 1 => if bt row k then ((if (sBeh set row k).2 then (sBeh set row k).1 ||| ((1 : Int32) <<< (nI k &&& 31)) else (sBeh set row k).1), bt set k) else sBeh set row k
/-- one pass of needs, then passes -/
def sPass (nds : Nat → Int32) (all : Int32) : Nat → Int32
  | 0 => all
  | k + 1 => if bt (sPass nds all k) k then sPass nds all k ||| nds k else sPass nds all k
def sKin (nds : Nat → Int32) (n : Nat) (all : Int32) : Nat → Int32
  | 0 => all
  | k + 1 => sPass nds (sKin nds n all k) n
section TX0
variable {g : GG} {d : Nat} {M : MM} {a n : Nat}
theorem tX0_isShot {i : Int32} (C : Cty M a) : R0 g YX0_isShot d [.ref a, .int i] M (Ans (b2i (sIn i (mi M a 0))) M) := by
  refine R0.of (by decide +kernel) (Nat.le_of_ble_eq_true rfl) rfl (qX0_isShot_0 C (fun c => ?_) (fun c1 c2 => ?_) (fun c1 c2 => ?_)) <;> simp [Ans, sIn, b2i, *]
theorem tX0_isHall {i : Int32} (C : Cty M a) : R0 g YX0_isHall d [.ref a, .int i] M (Ans (b2i (sIn i (mi M a 5))) M) := by
  refine R0.of (by decide +kernel) (Nat.le_of_ble_eq_true rfl) rfl (qX0_isHall_0 C (fun c => ?_) (fun c1 c2 => ?_) (fun c1 c2 => ?_)) <;> simp [Ans, sIn, b2i, *]
theorem tX0_film (C : Cty M a) : R0 g YX0_film d [.ref a] M (Ans (((1 : Int32) <<< ((mi M a 0) &&& 31)) - 1) M) :=
  R0.of (by decide +kernel) (Nat.le_of_ble_eq_true rfl) rfl (qX0_film_0 C ⟨rfl, rfl⟩)
theorem tX0_minutesOf {row : Int32} (C : Cty M a) (hn : mi M a 0 = nI n) (h10 : n ≤ 10) : R0 g YX0_minutesOf d [.ref a, .int row] M (Ans (sMin (mi M (a + 3)) row n) M) := by
  refine R0.of (by decide +kernel) (Nat.le_of_ble_eq_true rfl) rfl (qX0_minutesOf_0 ?_)
  have le : mi M a 0 ≤ nI n := by rw [hn]; exact nI_le (Nat.le_refl _) (by omega)
  have nle : ∀ i, i < n → ¬ mi M a 0 ≤ nI i := fun i hi => by rw [hn, nI_leI (by omega) (by omega)]; omega
  refine up0 (p := fun i => E0 g YX0_minutesOf d 4 [(0, .ref a), (1, .int row), (2, .int (sMin (mi M (a + 3)) row i)), (3, .int (nI i))] [] M _) n ?_ (fun i hi ih => ?_)
  · exact qX0_minutesOf_4 C (fun c _ => absurd le c) (fun _ => ⟨rfl, rfl⟩) (fun c _ => absurd le c) (fun c _ => absurd le c)
  · refine qX0_minutesOf_4 C (fun _ _ => vi (by omega) (by decide)) (fun c => absurd c (nle i hi)) (fun _ c => ?_) (fun _ c => ?_)
    · rw [bit_f row (by omega)] at c
      simp only [sMin, c, Bool.false_eq_true, if_false, Int32.add_zero] at ih
      rw [nI_1]; exact ih
    · rw [bit_t row (by omega)] at c
      simp only [sMin, c, if_true] at ih
      rw [nI_1, nI_clamp (by omega)]; exact ih
theorem tX0_shotNamed {x : Int64} (C : Cty M a) (hn : mi M a 0 = nI n) (h10 : n ≤ 10) : R0 g YX0_shotNamed d [.ref a, .long x] M (Ans (sNm (mj M (a + 1)) x n 0) M) := by
  refine R0.of (by decide +kernel) (Nat.le_of_ble_eq_true rfl) rfl (qX0_shotNamed_0 ?_)
  have le : mi M a 0 ≤ nI n := by rw [hn]; exact nI_le (Nat.le_refl _) (by omega)
  have nle : ∀ i, i < n → ¬ mi M a 0 ≤ nI i := fun i hi => by rw [hn, nI_leI (by omega) (by omega)]; omega
  refine up0 (p := fun i => E0 g YX0_shotNamed d 2 [(0, .ref a), (1, .long x), (3, .int (nI i))] [] M (Ans (sNm (mj M (a + 1)) x (n - i) i) M)) n ?_ (fun i hi ih => ?_)
  · rw [Nat.sub_self]
    exact qX0_shotNamed_2 C (fun c => absurd le c) (fun _ => ⟨rfl, rfl⟩) (fun c _ => absurd le c) (fun c _ => absurd le c)
  · have e : n - i = (n - (i + 1)) + 1 := by omega
    rw [e]
    refine qX0_shotNamed_2 C (fun _ => vi (by omega) (by decide)) (fun c => absurd c (nle i hi)) (fun _ c => ?_) (fun _ c => ?_)
    · rw [lg_eq, nI_clamp (by omega)] at c
      rw [sNm, if_neg c, nI_1]; exact ih
    · rw [lg_eq, nI_clamp (by omega)] at c
      rw [sNm, if_pos c]; exact ⟨rfl, rfl⟩
theorem tX0_hallNamed {x : Int64} (C : Cty M a) (hn : mi M a 5 = nI n) (h10 : n ≤ 6) : R0 g YX0_hallNamed d [.ref a, .long x] M (Ans (sNm (mj M (a + 5)) x n 0) M) := by
  refine R0.of (by decide +kernel) (Nat.le_of_ble_eq_true rfl) rfl (qX0_hallNamed_0 ?_)
  have le : mi M a 5 ≤ nI n := by rw [hn]; exact nI_le (Nat.le_refl _) (by omega)
  have nle : ∀ i, i < n → ¬ mi M a 5 ≤ nI i := fun i hi => by rw [hn, nI_leI (by omega) (by omega)]; omega
  refine up0 (p := fun i => E0 g YX0_hallNamed d 2 [(0, .ref a), (1, .long x), (3, .int (nI i))] [] M (Ans (sNm (mj M (a + 5)) x (n - i) i) M)) n ?_ (fun i hi ih => ?_)
  · rw [Nat.sub_self]
    exact qX0_hallNamed_2 C (fun c => absurd le c) (fun _ => ⟨rfl, rfl⟩) (fun c _ => absurd le c) (fun c _ => absurd le c)
  · have e : n - i = (n - (i + 1)) + 1 := by omega
    rw [e]
    refine qX0_hallNamed_2 C (fun _ => vi (by omega) (by decide)) (fun c => absurd c (nle i hi)) (fun _ c => ?_) (fun _ c => ?_)
    · rw [lg_eq, nI_clamp (by omega)] at c
      rw [sNm, if_neg c, nI_1]; exact ih
    · rw [lg_eq, nI_clamp (by omega)] at c
      rw [sNm, if_pos c]; exact ⟨rfl, rfl⟩
theorem tX0_makesSense {row : Int32} (C : Cty M a) (hn : mi M a 0 = nI n) (h10 : n ≤ 10) : R0 g YX0_makesSense d [.ref a, .int row] M (Ans (b2i (sSn (mi M (a + 4)) row n 0)) M) := by
  refine R0.of (by decide +kernel) (Nat.le_of_ble_eq_true rfl) rfl (qX0_makesSense_0 ?_)
  have le : mi M a 0 ≤ nI n := by rw [hn]; exact nI_le (Nat.le_refl _) (by omega)
  have nle : ∀ i, i < n → ¬ mi M a 0 ≤ nI i := fun i hi => by rw [hn, nI_leI (by omega) (by omega)]; omega
  refine up0 (p := fun i => E0 g YX0_makesSense d 2 [(0, .ref a), (1, .int row), (2, .int (nI i))] [] M (Ans (b2i (sSn (mi M (a + 4)) row (n - i) i)) M)) n ?_ (fun i hi ih => ?_)
  · rw [Nat.sub_self]
    exact qX0_makesSense_2 C (fun c _ => absurd le c) (fun _ => ⟨rfl, rfl⟩) (fun c _ => absurd le c) (fun c _ _ => absurd le c) (fun c _ _ => absurd le c)
  · have e : n - i = (n - (i + 1)) + 1 := by omega
    rw [e, sSn]
    refine qX0_makesSense_2 C (fun _ _ => vi (by omega) (by decide)) (fun c => absurd c (nle i hi)) (fun _ c => ?_) (fun _ c c2 => ?_) (fun _ c c2 => ?_)
    · rw [bit_f row (by omega)] at c
      rw [nI_1, c]; exact ih
    · rw [nI_clamp (by omega)] at c2
      have c3 : sOkN (mi M (a + 4) i) row i = true := decide_eq_true c2
      rw [nI_1, c3, Bool.or_true, Bool.true_and]; exact ih
    · rw [nI_clamp (by omega)] at c2
      rw [bit_t row (by omega)] at c
      have c3 : sOkN (mi M (a + 4) i) row i = false := decide_eq_false c2
      rw [c, c3]; exact ⟨rfl, rfl⟩
theorem tX0_shotAt {row x : Int32} (C : Cty M a) (hn : mi M a 0 = nI n) (h10 : n ≤ 10) : R0 g YX0_shotAt d [.ref a, .int row, .int x] M (Ans (sAt row x n 0 0) M) := by
  refine R0.of (by decide +kernel) (Nat.le_of_ble_eq_true rfl) rfl (qX0_shotAt_0 ?_)
  have le : mi M a 0 ≤ nI n := by rw [hn]; exact nI_le (Nat.le_refl _) (by omega)
  have nle : ∀ i, i < n → ¬ mi M a 0 ≤ nI i := fun i hi => by rw [hn, nI_leI (by omega) (by omega)]; omega
  refine up0 (p := fun i => ∀ pl : Int32, E0 g YX0_shotAt d 5 [(0, .ref a), (1, .int row), (2, .int x), (3, .int pl), (4, .int (nI i))] [] M (Ans (sAt row x (n - i) i pl) M)) n (fun pl => ?_) (fun i hi ih pl => ?_) 0
  · rw [Nat.sub_self]
    exact qX0_shotAt_5 C (fun _ => ⟨rfl, rfl⟩) (fun c _ => absurd le c) (fun c _ _ => absurd le c) (fun c _ _ => absurd le c)
  · have e : n - i = (n - (i + 1)) + 1 := by omega
    rw [e, sAt]
    refine qX0_shotAt_5 C (fun c => absurd c (nle i hi)) (fun _ c => ?_) (fun _ c c2 => ?_) (fun _ c c2 => ?_)
    · rw [bit_f row (by omega)] at c
      rw [nI_1, c]; exact ih pl
    · rw [bit_t row (by omega)] at c
      rw [nI_1, c, if_pos rfl, if_neg c2]; exact ih _
    · rw [bit_t row (by omega)] at c
      rw [c, if_pos rfl, if_pos c2]; exact ⟨rfl, rfl⟩
theorem tX0_shotsOfSort {x : Int32} (C : Cty M a) (hn : mi M a 0 = nI n) (h10 : n ≤ 10) : R0 g YX0_shotsOfSort d [.ref a, .int x] M (Ans (sSort (mi M (a + 2)) x n) M) := by
  refine R0.of (by decide +kernel) (Nat.le_of_ble_eq_true rfl) rfl (qX0_shotsOfSort_0 ?_)
  have le : mi M a 0 ≤ nI n := by rw [hn]; exact nI_le (Nat.le_refl _) (by omega)
  have nle : ∀ i, i < n → ¬ mi M a 0 ≤ nI i := fun i hi => by rw [hn, nI_leI (by omega) (by omega)]; omega
  refine up0 (p := fun i => E0 g YX0_shotsOfSort d 4 [(0, .ref a), (1, .int x), (2, .int (sSort (mi M (a + 2)) x i)), (3, .int (nI i))] [] M _) n ?_ (fun i hi ih => ?_)
  · exact qX0_shotsOfSort_4 C (fun c => absurd le c) (fun _ => ⟨rfl, rfl⟩) (fun c _ => absurd le c) (fun c _ => absurd le c)
  · refine qX0_shotsOfSort_4 C (fun _ => vi (by omega) (by decide)) (fun c => absurd c (nle i hi)) (fun _ c => ?_) (fun _ c => ?_)
    · rw [nI_clamp (by omega)] at c
      simp only [sSort, if_neg c] at ih
      rw [nI_1]; exact ih
    · rw [nI_clamp (by omega)] at c
      simp only [sSort, if_pos c] at ih
      rw [nI_1]; exact ih
theorem tX0_lastOf {row : Int32} (C : Cty M a) (hn : mi M a 0 = nI n) (h10 : n ≤ 10) : R0 g YX0_lastOf d [.ref a, .int row] M (Ans (sLast row n) M) := by
  refine R0.of (by decide +kernel) (Nat.le_of_ble_eq_true rfl) rfl (qX0_lastOf_0 ?_)
  have le : mi M a 0 ≤ nI n := by rw [hn]; exact nI_le (Nat.le_refl _) (by omega)
  have nle : ∀ i, i < n → ¬ mi M a 0 ≤ nI i := fun i hi => by rw [hn, nI_leI (by omega) (by omega)]; omega
  refine up0 (p := fun i => E0 g YX0_lastOf d 4 [(0, .ref a), (1, .int row), (2, .int (sLast row i)), (3, .int (nI i))] [] M _) n ?_ (fun i hi ih => ?_)
  · exact qX0_lastOf_4 C (fun _ => ⟨rfl, rfl⟩) (fun c _ => absurd le c) (fun c _ => absurd le c)
  · refine qX0_lastOf_4 C (fun c => absurd c (nle i hi)) (fun _ c => ?_) (fun _ c => ?_)
    · rw [bit_f row (by omega)] at c
      simp only [sLast, c, Bool.false_eq_true, if_false] at ih
      rw [nI_1]; exact ih
    · rw [bit_t row (by omega)] at c
      simp only [sLast, c, if_true] at ih
      rw [nI_1]; exact ih
theorem tX0_behind {set row : Int32} (C : Cty M a) (hn : mi M a 0 = nI n) (h10 : n ≤ 10) : R0 g YX0_behind d [.ref a, .int set, .int row] M (Ans (sBeh set row n).1 M) := by
  refine R0.of (by decide +kernel) (Nat.le_of_ble_eq_true rfl) rfl (qX0_behind_0 ?_)
  have le : mi M a 0 ≤ nI n := by rw [hn]; exact nI_le (Nat.le_refl _) (by omega)
  have nle : ∀ i, i < n → ¬ mi M a 0 ≤ nI i := fun i hi => by rw [hn, nI_leI (by omega) (by omega)]; omega
  refine up0 (p := fun i => E0 g YX0_behind d 8 [(0, .ref a), (1, .int set), (2, .int row), (3, .int (sBeh set row i).1), (4, .int (b2i (sBeh set row i).2)), (5, .int (nI i))] [] M _) n ?_ (fun i hi ih => ?_)
  · exact qX0_behind_8 C (fun _ => ⟨rfl, rfl⟩) (fun c _ => absurd le c) (fun c _ _ _ => absurd le c) (fun c _ _ _ => absurd le c) (fun c _ _ _ => absurd le c) (fun c _ _ _ => absurd le c)
  · refine qX0_behind_8 C (fun c => absurd c (nle i hi)) (fun _ c => ?_) (fun _ c c1 c2 => ?_) (fun _ c c1 c2 => ?_) (fun _ c c1 c2 => ?_) (fun _ c c1 c2 => ?_)
    · rw [bit_f row (by omega)] at c
      simp only [sBeh, c, Bool.false_eq_true, if_false] at ih
      rw [nI_1]; exact ih
    · rw [bit_t row (by omega)] at c
      rw [b2i_z] at c1
      rw [bit_f set (by omega)] at c2
      simp only [sBeh, c, c1, c2, if_true, Bool.false_eq_true, if_false] at ih
      rw [nI_1]; exact ih
    · rw [bit_t row (by omega)] at c
      rw [b2i_z] at c1
      rw [bit_t set (by omega)] at c2
      simp only [sBeh, c, c1, c2, if_true, Bool.false_eq_true, if_false] at ih
      rw [nI_1]; exact ih
    · rw [bit_t row (by omega)] at c
      rw [b2i_n] at c1
      rw [bit_f set (by omega)] at c2
      simp only [sBeh, c, c1, c2, if_true] at ih
      rw [nI_1]; exact ih
    · rw [bit_t row (by omega)] at c
      rw [b2i_n] at c1
      rw [bit_t set (by omega)] at c2
      simp only [sBeh, c, c1, c2, if_true] at ih
      rw [nI_1]; exact ih
theorem tX0_allNeeds {k : Nat} (C : Cty M a) (hn : mi M a 0 = nI n) (h10 : n ≤ 10) (hk : k < n) (hd : 1 ≤ d) : R0 g YX0_allNeeds d [.ref a, .int (nI k)] M (Ans (sKin (mi M (a + 4)) n (mi M (a + 4) k) n) M) := by
  have le : mi M a 0 ≤ nI n := by rw [hn]; exact nI_le (Nat.le_refl _) (by omega)
  have nle : ∀ i, i < n → ¬ mi M a 0 ≤ nI i := fun i hi => by rw [hn, nI_leI (by omega) (by omega)]; omega
  refine R0.of (by decide +kernel) (Nat.le_of_ble_eq_true rfl) rfl (qX0_allNeeds_0 C (K0.ans (d1 := d - 1) (by omega) (tX0_isShot C) ?_))
  rw [hn, sIn_nI (by omega) (by omega), decide_eq_true hk]
  refine qX0_allNeeds_5 C (fun _ => vi (by omega) (by decide)) (fun c => absurd c (by decide)) (fun _ => ?_)
  rw [nI_clamp (by omega)]
  refine up0 (p := fun i => E0 g YX0_allNeeds d 21 [(0, .ref a), (2, .int (sKin (mi M (a + 4)) n (mi M (a + 4) k) i)), (3, .int (nI i))] [] M _) n ?_ (fun i hi ih => ?_)
  · exact qX0_allNeeds_21 C (fun _ => ⟨rfl, rfl⟩) (fun c => absurd le c)
  · refine qX0_allNeeds_21 C (fun c => absurd c (nle i hi)) (fun _ => ?_)
    refine up0 (p := fun j => E0 g YX0_allNeeds d 32 [(0, .ref a), (2, .int (sPass (mi M (a + 4)) (sKin (mi M (a + 4)) n (mi M (a + 4) k) i) j)), (3, .int (nI i)), (4, .int (nI j))] [] M _) n ?_ (fun j hj ih2 => ?_)
    · refine qX0_allNeeds_32 C (fun c _ => absurd le c) (fun _ => ?_) (fun c _ => absurd le c) (fun c _ => absurd le c)
      rw [nI_1]; exact ih
    · refine qX0_allNeeds_32 C (fun _ _ => vi (by omega) (by decide)) (fun c => absurd c (nle j hj)) (fun _ c => ?_) (fun _ c => ?_)
      · rw [bit_f _ (by omega)] at c
        simp only [sPass, c, Bool.false_eq_true, if_false] at ih2
        rw [nI_1]; exact ih2
      · rw [bit_t _ (by omega)] at c
        simp only [sPass, c, if_true] at ih2
        rw [nI_1, nI_clamp (by omega)]; exact ih2
end TX0
/-! ===== what a hall takes out ===== -/
def jBit (x : Int32) : Int32 :=
  let u := fun (y s : Int32) => (y.toUInt32 >>> (s.toUInt32 &&& Int32.toUInt32 31)).toInt32
  let a := x - (u x 1 &&& 1431655765)
  let b := (a &&& 858993459) + (u a 2 &&& 858993459)
  let c := (b + u b 4) &&& 252645135
  let e := c + u c 8
  (e + u e 16) &&& 63
/-- what a law hates of a row: found so far, the next place, the sort ahead -/
def sHat (srt vd : Nat → Int32) (hl : Nat) (row : Int32) : Nat → Int32 × Nat × Int32
  | 0 => (0, 0, 10)
  | k + 1 => if bt row k then ((if ((vd ((hl * 10 + k) * 10 + (sHat srt vd hl row k).2.1) >>> ((sHat srt vd hl row k).2.2 &&& 31)) &&& 1) = 1 then (sHat srt vd hl row k).1 ||| ((1 : Int32) <<< (nI k &&& 31)) else (sHat srt vd hl row k).1), (sHat srt vd hl row k).2.1 + 1, srt k) else sHat srt vd hl row k
theorem sHat_le (srt vd : Nat → Int32) (hl : Nat) (row : Int32) : ∀ k, (sHat srt vd hl row k).2.1 ≤ k
  | 0 => Nat.le_refl _
  | k + 1 => by
    have ih := sHat_le srt vd hl row k
    unfold sHat
    split
    · show (sHat srt vd hl row k).2.1 + 1 ≤ k + 1
      omega
    · omega
def sTk (n : Nat) (kd hated row : Int32) : Int32 := if kd.toInt = 1 then hated &&& (-hated) else if kd.toInt = 2 then hated ||| (sBeh hated row n).1 else if kd.toInt = 3 then hated &&& (sLast row n ^^^ (-1)) else hated
/-- how many shots of different sorts, one behind another: sorts met so far, whether it goes on -/
def sUn (srt : Nat → Int32) (row : Int32) : Nat → Nat → Int32 → Int32
  | 0, _, met => met
  | j + 1, i, met => if bt row i then (if (met &&& ((1 : Int32) <<< (srt i &&& 31))) = 0 then sUn srt row j (i + 1) (met ||| ((1 : Int32) <<< (srt i &&& 31))) else met) else sUn srt row j (i + 1) met
section TX0b
variable {g : GG} {d : Nat} {M : MM} {a n h : Nat}
theorem tJ6_bitCount {x : Int32} : R0 g YJ6_bitCount_0f7a4 d [.int x] M (Ans (jBit x) M) :=
  R0.of (by decide +kernel) (Nat.le_of_ble_eq_true rfl) rfl (qJ6_bitCount_0f7a4_0 ⟨rfl, rfl⟩)
theorem tX0_isLonger {x y : Int32} (C : Cty M a) (hn : mi M a 0 = nI n) (h10 : n ≤ 10) (hd : 1 ≤ d) : R0 g YX0_isLonger d [.ref a, .int x, .int y] M (Ans (b2i (decide (0 < sMin (mi M (a + 3)) x n - sMin (mi M (a + 3)) y n) || (decide (sMin (mi M (a + 3)) x n - sMin (mi M (a + 3)) y n = 0) && decide (jBit x < jBit y)))) M) := by
  refine R0.of (by decide +kernel) (Nat.le_of_ble_eq_true rfl) rfl (qX0_isLonger_0 C (K0.ans (d1 := d - 1) (by omega) (tX0_minutesOf C hn h10) ?_))
  refine qX0_isLonger_5 C (K0.ans (d1 := d - 1) (by omega) (tX0_minutesOf C hn h10) ?_)
  refine qX0_isLonger_10 (fun c => ?_) (fun c1 c2 => ?_) (fun c1 c2 => ?_)
  · simp [Ans, c, b2i]
  · simp [Ans, c1, c2, b2i]
  · refine K0.ans (d1 := d - 1) (by omega) tJ6_bitCount (qX0_isLonger_24 (K0.ans (d1 := d - 1) (by omega) tJ6_bitCount (qX0_isLonger_28 (fun c => ?_) (fun c => ?_))))
    · have : ¬ jBit x < jBit y := Int32.not_lt.mpr c
      simp [Ans, c1, c2, this, b2i]
    · have : jBit x < jBit y := Int32.not_le.mp c
      simp [Ans, c2, this, b2i]
theorem tX0_unlikeFrom {row : Int32} {f : Nat} (C : Cty M a) (hn : mi M a 0 = nI n) (h10 : n ≤ 10) (hf : f ≤ n) (hd : 1 ≤ d) : R0 g YX0_unlikeFrom d [.ref a, .int row, .int (nI f)] M (Ans (jBit (sUn (mi M (a + 2)) row (n - f) f 0)) M) := by
  have le : mi M a 0 ≤ nI n := by rw [hn]; exact nI_le (Nat.le_refl _) (by omega)
  have nle : ∀ i, i < n → ¬ mi M a 0 ≤ nI i := fun i hi => by rw [hn, nI_leI (by omega) (by omega)]; omega
  refine R0.of (by decide +kernel) (Nat.le_of_ble_eq_true rfl) rfl (qX0_unlikeFrom_0 hd ?_)
  rw [if_neg (nI_pos (by omega))]
  refine up (p := fun i => ∀ met, E0 g YX0_unlikeFrom d 9 [(0, .ref a), (1, .int row), (3, .int met), (4, .int (nI i))] [] M (Ans (jBit (sUn (mi M (a + 2)) row (n - i) i met)) M)) n (fun met => ?_) (fun i hi ih met => ?_) f hf 0
  · rw [Nat.sub_self]
    exact qX0_unlikeFrom_9 C (fun c _ => absurd le c) (fun _ => K0.ans (d1 := d - 1) (by omega) tJ6_bitCount (qX0_unlikeFrom_64 ⟨rfl, rfl⟩)) (fun c _ => absurd le c) (fun c _ _ => absurd le c) (fun c _ _ => absurd le c)
  · have e : n - i = (n - (i + 1)) + 1 := by omega
    rw [e, sUn]
    refine qX0_unlikeFrom_9 C (fun _ _ => vi (by omega) (by decide)) (fun c => absurd c (nle i hi)) (fun _ c => ?_) (fun _ c c2 => ?_) (fun _ c c2 => ?_)
    · rw [bit_f _ (by omega)] at c
      rw [c, nI_1]; exact ih met
    · rw [bit_t _ (by omega)] at c
      rw [nI_clamp (by omega)] at c2
      rw [c, if_pos rfl, if_pos c2, nI_1, nI_clamp (by omega)]; exact ih _
    · rw [bit_t _ (by omega)] at c
      rw [nI_clamp (by omega)] at c2
      rw [c, if_pos rfl, if_neg c2]
      exact K0.ans (d1 := d - 1) (by omega) tJ6_bitCount (qX0_unlikeFrom_64 ⟨rfl, rfl⟩)
theorem tX0_keyOf {hl k pl : Nat} (C : Cty M a) (hn : mi M a 0 = nI n) (h10 : n ≤ 10) (hh : mi M a 5 = nI h) (h6 : h ≤ 6) (h1 : hl < h) (h2 : k < n) (h3 : pl < 10) (hd : 1 ≤ d) : R0 g YX0_keyOf d [.ref a, .int (nI hl), .int (nI k), .int (nI pl)] M (Ans (nI ((hl * 10 + k) * 10 + pl)) M) := by
  refine R0.of (by decide +kernel) (Nat.le_of_ble_eq_true rfl) rfl (qX0_keyOf_0 C (K0.ans (d1 := d - 1) (by omega) (tX0_isHall C) ?_))
  rw [hh, sIn_nI (by omega) (by omega), decide_eq_true h1]
  refine qX0_keyOf_5 C (fun c => absurd c (by decide)) (fun _ => K0.ans (d1 := d - 1) (by omega) (tX0_isShot C) ?_)
  rw [hn, sIn_nI (by omega) (by omega), decide_eq_true h2]
  refine qX0_keyOf_13 (fun c => absurd c (by decide)) (fun _ c => absurd c (nI_pos (by omega))) (fun _ _ c => absurd c (ngl 10 rfl (by decide) h3)) (fun _ _ _ => ⟨?_, rfl⟩)
  rw [show (10 : Int32) = nI 10 from rfl, pk_mul, nI_add, pk_mul, nI_add]
theorem tX0_hatedIn {hl : Nat} {row : Int32} (C : Cty M a) (hn : mi M a 0 = nI n) (h10 : n ≤ 10) (hh : mi M a 5 = nI h) (h6 : h ≤ 6) (h1 : hl < h) (hd : 2 ≤ d) : R0 g YX0_hatedIn d [.ref a, .int (nI hl), .int row] M (Ans (sHat (mi M (a + 2)) (mi M (a + 11)) hl row n).1 M) := by
  have le : mi M a 0 ≤ nI n := by rw [hn]; exact nI_le (Nat.le_refl _) (by omega)
  have nle : ∀ i, i < n → ¬ mi M a 0 ≤ nI i := fun i hi => by rw [hn, nI_leI (by omega) (by omega)]; omega
  refine R0.of (by decide +kernel) (Nat.le_of_ble_eq_true rfl) rfl (qX0_hatedIn_0 ?_)
  refine up0 (p := fun i => E0 g YX0_hatedIn d 12 [(0, .ref a), (1, .int (nI hl)), (2, .int row), (3, .int (sHat (mi M (a + 2)) (mi M (a + 11)) hl row i).1), (4, .int (nI (sHat (mi M (a + 2)) (mi M (a + 11)) hl row i).2.1)), (5, .int (sHat (mi M (a + 2)) (mi M (a + 11)) hl row i).2.2), (6, .int (nI i))] [] M _) n ?_ (fun i hi ih => ?_)
  · exact qX0_hatedIn_12 C (fun _ => ⟨rfl, rfl⟩) (fun c _ => absurd le c) (fun c _ => absurd le c)
  · have hpl := sHat_le (mi M (a + 2)) (mi M (a + 11)) hl row i
    refine qX0_hatedIn_12 C (fun c => absurd c (nle i hi)) (fun _ c => ?_) (fun _ c => ?_)
    · rw [bit_f _ (by omega)] at c
      simp only [sHat, c, Bool.false_eq_true, if_false] at ih
      rw [nI_1]; exact ih
    · rw [bit_t _ (by omega)] at c
      refine K0.ans (d1 := d - 1) (by omega) (tX0_keyOf C hn h10 hh h6 h1 hi (by omega) (by omega)) ?_
      have hne : ¬ nI ((hl * 10 + i) * 10 + (sHat (mi M (a + 2)) (mi M (a + 11)) hl row i).2.1) = -1 := by
        intro q
        have h1 := nI_pos (n := (hl * 10 + i) * 10 + (sHat (mi M (a + 2)) (mi M (a + 11)) hl row i).2.1) (by omega)
        rw [q] at h1
        exact h1 (by decide)
      refine qX0_hatedIn_40 C (fun c => absurd c hne) (fun _ => vi (by omega) (by decide)) (fun _ _ => vi (by omega) (by decide)) (fun _ _ => vi (by omega) (by decide)) (fun c => absurd c hne) (fun _ c2 => ?_) (fun _ c2 => ?_)
      · rw [nI_clamp (by omega)] at c2
        simp only [sHat, c, if_true, if_neg c2] at ih
        rw [nI_1, nI_1, nI_clamp (by omega)]; exact ih
      · rw [nI_clamp (by omega)] at c2
        simp only [sHat, c, if_true, if_pos c2] at ih
        rw [nI_1, nI_1, nI_clamp (by omega)]; exact ih
theorem tX0_takenOut {hl : Nat} {row : Int32} (C : Cty M a) (hn : mi M a 0 = nI n) (h10 : n ≤ 10) (hh : mi M a 5 = nI h) (h6 : h ≤ 6) (h1 : hl < h) (hd : 3 ≤ d) : R0 g YX0_takenOut d [.ref a, .int (nI hl), .int row] M (Ans (sTk n (mi M (a + 6) hl) (sHat (mi M (a + 2)) (mi M (a + 11)) hl row n).1 row) M) := by
  refine R0.of (by decide +kernel) (Nat.le_of_ble_eq_true rfl) rfl (qX0_takenOut_0 C (K0.ans (d1 := d - 1) (by omega) (tX0_isHall C) ?_))
  rw [hh, sIn_nI (by omega) (by omega), decide_eq_true h1]
  refine qX0_takenOut_5 C (fun _ => K0.ans (d1 := d - 1) (by omega) (tX0_hatedIn C hn h10 hh h6 h1 (by omega)) ?_) (fun c => absurd c (by decide))
  refine qX0_takenOut_16 C (vi (by omega) (by decide)) (fun c => ?_) (fun c => ?_) (fun c => ?_) (fun c => ?_) <;> rw [nI_clamp (by omega)] at c
  · refine ⟨?_, rfl⟩
    unfold sTk
    rw [if_neg (by omega), if_neg (by omega), if_neg (by omega)]
  · refine ⟨?_, rfl⟩
    unfold sTk
    rw [if_pos c]
  · refine K0.ans (d1 := d - 1) (by omega) (tX0_behind C hn h10) (qX0_takenOut_60 ⟨?_, rfl⟩)
    unfold sTk
    rw [if_neg (by omega), if_pos c]
  · refine K0.ans (d1 := d - 1) (by omega) (tX0_lastOf C hn h10) (qX0_takenOut_68 ⟨?_, rfl⟩)
    unfold sTk
    rw [if_neg (by omega), if_neg (by omega), if_pos c]
/-- no hall: nothing is taken out -/
theorem tX0_takenOutNo {hl row : Int32} (C : Cty M a) (h1 : sIn hl (mi M a 5) = false) (hd : 1 ≤ d) : R0 g YX0_takenOut d [.ref a, .int hl, .int row] M (Ans 0 M) := by
  refine R0.of (by decide +kernel) (Nat.le_of_ble_eq_true rfl) rfl (qX0_takenOut_0 C (K0.ans (d1 := d - 1) (by omega) (tX0_isHall C) ?_))
  rw [h1]
  exact qX0_takenOut_5 C (fun c => absurd rfl c) (fun _ => ⟨rfl, rfl⟩)
theorem tX0_isNeeded {k : Nat} {y : Int32} (C : Cty M a) (hn : mi M a 0 = nI n) (h10 : n ≤ 10) (hk : k < n) (hd : 1 ≤ d) : R0 g YX0_isNeeded d [.ref a, .int (nI k), .int y] M (Ans (b2i (sIn y (nI n) && decide ((((mi M (a + 4) k) >>> (y &&& 31)) &&& 1) = 1))) M) := by
  refine R0.of (by decide +kernel) (Nat.le_of_ble_eq_true rfl) rfl (qX0_isNeeded_0 C (K0.ans (d1 := d - 1) (by omega) (tX0_isShot C) ?_))
  rw [hn, sIn_nI (by omega) (by omega), decide_eq_true hk]
  refine qX0_isNeeded_5 C (fun c => absurd c (by decide)) (fun _ => K0.ans (d1 := d - 1) (by omega) (tX0_isShot C) ?_)
  rw [hn]
  refine qX0_isNeeded_13 C (fun _ => vi (by omega) (by decide)) (fun c => ?_) (fun c1 c2 => ?_) (fun c1 c2 => ?_)
  · rw [b2i_z] at c
    simp [Ans, c, b2i]
  · rw [nI_clamp (by omega)] at c2
    simp [Ans, c2, b2i]
  · rw [nI_clamp (by omega)] at c2
    rw [b2i_n] at c1
    simp [Ans, c1, c2, b2i]
end TX0b
