/-! ===== contracts of CountyPrint$County: what it answers, in words of its cells ===== -/
def sMin (len : Nat → Int32) (row : Int32) : Nat → Int32
  | 0 => 0
  | k + 1 => sMin len row k + (if bt row k then len k else 0)
/-- the first of n names from i on -/
def sNm (nm : Nat → Int64) (x : Int64) : Nat → Nat → Int32
  | 0, _ => -1
  | j + 1, i => if nm i = x then nI i else sNm nm x j (i + 1)
def sOkN (nd row : Int32) (i : Nat) : Bool := decide ((nd &&& ((row &&& (((1 : Int32) <<< (nI i &&& 31)) - 1)) ^^^ (-1))) = 0)
def sSn (nds : Nat → Int32) (row : Int32) : Nat → Nat → Bool
  | 0, _ => true
  | j + 1, i => (!bt row i || sOkN (nds i) row i) && sSn nds row j (i + 1)
/-- the x-th shot of a row, pl of which stand ahead of i -/
def sAt (row x : Int32) : Nat → Nat → Int32 → Int32
  | 0, _, _ => -1
  | j + 1, i, pl => if bt row i then (if pl = x then nI i else sAt row x j (i + 1) (pl + 1)) else sAt row x j (i + 1) pl
def sSort (srt : Nat → Int32) (x : Int32) : Nat → Int32
  | 0 => 0
  | k + 1 => if srt k = x then sSort srt x k ||| ((1 : Int32) <<< (nI k &&& 31)) else sSort srt x k
def sLast (row : Int32) : Nat → Int32
  | 0 => 0
  | k + 1 => if bt row k then (1 : Int32) <<< (nI k &&& 31) else sLast row k
/-- what stands behind one of set in row: found so far, whether the last one is of set -/
def sBeh (set row : Int32) : Nat → Int32 × Bool
  | 0 => (0, false)
  | k + 1 => if bt row k then ((if (sBeh set row k).2 then (sBeh set row k).1 ||| ((1 : Int32) <<< (nI k &&& 31)) else (sBeh set row k).1), bt set k) else sBeh set row k
/-- one pass of needs, then passes -/
def sPass (nds : Nat → Int32) (all : Int32) : Nat → Int32
  | 0 => all
  | k + 1 => if bt (sPass nds all k) k then sPass nds all k ||| nds k else sPass nds all k
def sKin (nds : Nat → Int32) (n : Nat) (all : Int32) : Nat → Int32
  | 0 => all
  | k + 1 => sPass nds (sKin nds n all k) n
section TX0
variable {g : GG} {d : Nat} {M : MM} {a n : Nat}
theorem tX0_isShot {i : Int32} (C : Cty M a) : R0 g YX0_isShot d [.ref a, .int i] M (Ans (b2i (sIn i (mi M a 0))) M) := by
  refine R0.of (by decide +kernel) (Nat.le_of_ble_eq_true rfl) rfl (qX0_isShot_0 C (fun c => ?_) (fun c1 c2 => ?_) (fun c1 c2 => ?_)) <;> simp [Ans, sIn, b2i, *]
theorem tX0_isHall {i : Int32} (C : Cty M a) : R0 g YX0_isHall d [.ref a, .int i] M (Ans (b2i (sIn i (mi M a 5))) M) := by
  refine R0.of (by decide +kernel) (Nat.le_of_ble_eq_true rfl) rfl (qX0_isHall_0 C (fun c => ?_) (fun c1 c2 => ?_) (fun c1 c2 => ?_)) <;> simp [Ans, sIn, b2i, *]
theorem tX0_film (C : Cty M a) : R0 g YX0_film d [.ref a] M (Ans (((1 : Int32) <<< ((mi M a 0) &&& 31)) - 1) M) :=
  R0.of (by decide +kernel) (Nat.le_of_ble_eq_true rfl) rfl (qX0_film_0 C ⟨rfl, rfl⟩)
theorem tX0_minutesOf {row : Int32} (C : Cty M a) (hn : mi M a 0 = nI n) (h10 : n ≤ 10) : R0 g YX0_minutesOf d [.ref a, .int row] M (Ans (sMin (mi M (a + 3)) row n) M) := by
  refine R0.of (by decide +kernel) (Nat.le_of_ble_eq_true rfl) rfl (qX0_minutesOf_0 ?_)
  have le : mi M a 0 ≤ nI n := by rw [hn]; exact nI_le (Nat.le_refl _) (by omega)
  have nle : ∀ i, i < n → ¬ mi M a 0 ≤ nI i := fun i hi => by rw [hn, nI_leI (by omega) (by omega)]; omega
  refine up0 (p := fun i => E0 g YX0_minutesOf d 4 [(0, .ref a), (1, .int row), (2, .int (sMin (mi M (a + 3)) row i)), (3, .int (nI i))] [] M _) n ?_ (fun i hi ih => ?_)
  · exact qX0_minutesOf_4 C (fun c _ => absurd le c) (fun _ => ⟨rfl, rfl⟩) (fun c _ => absurd le c) (fun c _ => absurd le c)
  · refine qX0_minutesOf_4 C (fun _ _ => vi (by omega) (by decide)) (fun c => absurd c (nle i hi)) (fun _ c => ?_) (fun _ c => ?_)
    · rw [bit_f row (by omega)] at c
      simp only [sMin, c, Bool.false_eq_true, if_false, Int32.add_zero] at ih
      rw [nI_1]; exact ih
    · rw [bit_t row (by omega)] at c
      simp only [sMin, c, if_true] at ih
      rw [nI_1, nI_clamp (by omega)]; exact ih
theorem tX0_shotNamed {x : Int64} (C : Cty M a) (hn : mi M a 0 = nI n) (h10 : n ≤ 10) : R0 g YX0_shotNamed d [.ref a, .long x] M (Ans (sNm (mj M (a + 1)) x n 0) M) := by
  refine R0.of (by decide +kernel) (Nat.le_of_ble_eq_true rfl) rfl (qX0_shotNamed_0 ?_)
  have le : mi M a 0 ≤ nI n := by rw [hn]; exact nI_le (Nat.le_refl _) (by omega)
  have nle : ∀ i, i < n → ¬ mi M a 0 ≤ nI i := fun i hi => by rw [hn, nI_leI (by omega) (by omega)]; omega
  refine up0 (p := fun i => E0 g YX0_shotNamed d 2 [(0, .ref a), (1, .long x), (3, .int (nI i))] [] M (Ans (sNm (mj M (a + 1)) x (n - i) i) M)) n ?_ (fun i hi ih => ?_)
  · rw [Nat.sub_self]
    exact qX0_shotNamed_2 C (fun c => absurd le c) (fun _ => ⟨rfl, rfl⟩) (fun c _ => absurd le c) (fun c _ => absurd le c)
  · have e : n - i = (n - (i + 1)) + 1 := by omega
    rw [e]
    refine qX0_shotNamed_2 C (fun _ => vi (by omega) (by decide)) (fun c => absurd c (nle i hi)) (fun _ c => ?_) (fun _ c => ?_)
    · rw [lg_eq, nI_clamp (by omega)] at c
      rw [sNm, if_neg c, nI_1]; exact ih
    · rw [lg_eq, nI_clamp (by omega)] at c
      rw [sNm, if_pos c]; exact ⟨rfl, rfl⟩
theorem tX0_hallNamed {x : Int64} (C : Cty M a) (hn : mi M a 5 = nI n) (h10 : n ≤ 6) : R0 g YX0_hallNamed d [.ref a, .long x] M (Ans (sNm (mj M (a + 5)) x n 0) M) := by
  refine R0.of (by decide +kernel) (Nat.le_of_ble_eq_true rfl) rfl (qX0_hallNamed_0 ?_)
  have le : mi M a 5 ≤ nI n := by rw [hn]; exact nI_le (Nat.le_refl _) (by omega)
  have nle : ∀ i, i < n → ¬ mi M a 5 ≤ nI i := fun i hi => by rw [hn, nI_leI (by omega) (by omega)]; omega
  refine up0 (p := fun i => E0 g YX0_hallNamed d 2 [(0, .ref a), (1, .long x), (3, .int (nI i))] [] M (Ans (sNm (mj M (a + 5)) x (n - i) i) M)) n ?_ (fun i hi ih => ?_)
  · rw [Nat.sub_self]
    exact qX0_hallNamed_2 C (fun c => absurd le c) (fun _ => ⟨rfl, rfl⟩) (fun c _ => absurd le c) (fun c _ => absurd le c)
  · have e : n - i = (n - (i + 1)) + 1 := by omega
    rw [e]
    refine qX0_hallNamed_2 C (fun _ => vi (by omega) (by decide)) (fun c => absurd c (nle i hi)) (fun _ c => ?_) (fun _ c => ?_)
    · rw [lg_eq, nI_clamp (by omega)] at c
      rw [sNm, if_neg c, nI_1]; exact ih
    · rw [lg_eq, nI_clamp (by omega)] at c
      rw [sNm, if_pos c]; exact ⟨rfl, rfl⟩
theorem tX0_makesSense {row : Int32} (C : Cty M a) (hn : mi M a 0 = nI n) (h10 : n ≤ 10) : R0 g YX0_makesSense d [.ref a, .int row] M (Ans (b2i (sSn (mi M (a + 4)) row n 0)) M) := by
  refine R0.of (by decide +kernel) (Nat.le_of_ble_eq_true rfl) rfl (qX0_makesSense_0 ?_)
  have le : mi M a 0 ≤ nI n := by rw [hn]; exact nI_le (Nat.le_refl _) (by omega)
  have nle : ∀ i, i < n → ¬ mi M a 0 ≤ nI i := fun i hi => by rw [hn, nI_leI (by omega) (by omega)]; omega
  refine up0 (p := fun i => E0 g YX0_makesSense d 2 [(0, .ref a), (1, .int row), (2, .int (nI i))] [] M (Ans (b2i (sSn (mi M (a + 4)) row (n - i) i)) M)) n ?_ (fun i hi ih => ?_)
  · rw [Nat.sub_self]
    exact qX0_makesSense_2 C (fun c _ => absurd le c) (fun _ => ⟨rfl, rfl⟩) (fun c _ => absurd le c) (fun c _ _ => absurd le c) (fun c _ _ => absurd le c)
  · have e : n - i = (n - (i + 1)) + 1 := by omega
    rw [e, sSn]
    refine qX0_makesSense_2 C (fun _ _ => vi (by omega) (by decide)) (fun c => absurd c (nle i hi)) (fun _ c => ?_) (fun _ c c2 => ?_) (fun _ c c2 => ?_)
    · rw [bit_f row (by omega)] at c
      rw [nI_1, c]; exact ih
    · rw [nI_clamp (by omega)] at c2
      have c3 : sOkN (mi M (a + 4) i) row i = true := decide_eq_true c2
      rw [nI_1, c3, Bool.or_true, Bool.true_and]; exact ih
    · rw [nI_clamp (by omega)] at c2
      rw [bit_t row (by omega)] at c
      have c3 : sOkN (mi M (a + 4) i) row i = false := decide_eq_false c2
      rw [c, c3]; exact ⟨rfl, rfl⟩
theorem tX0_shotAt {row x : Int32} (C : Cty M a) (hn : mi M a 0 = nI n) (h10 : n ≤ 10) : R0 g YX0_shotAt d [.ref a, .int row, .int x] M (Ans (sAt row x n 0 0) M) := by
  refine R0.of (by decide +kernel) (Nat.le_of_ble_eq_true rfl) rfl (qX0_shotAt_0 ?_)
  have le : mi M a 0 ≤ nI n := by rw [hn]; exact nI_le (Nat.le_refl _) (by omega)
  have nle : ∀ i, i < n → ¬ mi M a 0 ≤ nI i := fun i hi => by rw [hn, nI_leI (by omega) (by omega)]; omega
  refine up0 (p := fun i => ∀ pl : Int32, E0 g YX0_shotAt d 5 [(0, .ref a), (1, .int row), (2, .int x), (3, .int pl), (4, .int (nI i))] [] M (Ans (sAt row x (n - i) i pl) M)) n (fun pl => ?_) (fun i hi ih pl => ?_) 0
  · rw [Nat.sub_self]
    exact qX0_shotAt_5 C (fun _ => ⟨rfl, rfl⟩) (fun c _ => absurd le c) (fun c _ _ => absurd le c) (fun c _ _ => absurd le c)
  · have e : n - i = (n - (i + 1)) + 1 := by omega
    rw [e, sAt]
    refine qX0_shotAt_5 C (fun c => absurd c (nle i hi)) (fun _ c => ?_) (fun _ c c2 => ?_) (fun _ c c2 => ?_)
    · rw [bit_f row (by omega)] at c
      rw [nI_1, c]; exact ih pl
    · rw [bit_t row (by omega)] at c
      rw [nI_1, c, if_pos rfl, if_neg c2]; exact ih _
    · rw [bit_t row (by omega)] at c
      rw [c, if_pos rfl, if_pos c2]; exact ⟨rfl, rfl⟩
theorem tX0_shotsOfSort {x : Int32} (C : Cty M a) (hn : mi M a 0 = nI n) (h10 : n ≤ 10) : R0 g YX0_shotsOfSort d [.ref a, .int x] M (Ans (sSort (mi M (a + 2)) x n) M) := by
  refine R0.of (by decide +kernel) (Nat.le_of_ble_eq_true rfl) rfl (qX0_shotsOfSort_0 ?_)
  have le : mi M a 0 ≤ nI n := by rw [hn]; exact nI_le (Nat.le_refl _) (by omega)
  have nle : ∀ i, i < n → ¬ mi M a 0 ≤ nI i := fun i hi => by rw [hn, nI_leI (by omega) (by omega)]; omega
  refine up0 (p := fun i => E0 g YX0_shotsOfSort d 4 [(0, .ref a), (1, .int x), (2, .int (sSort (mi M (a + 2)) x i)), (3, .int (nI i))] [] M _) n ?_ (fun i hi ih => ?_)
  · exact qX0_shotsOfSort_4 C (fun c => absurd le c) (fun _ => ⟨rfl, rfl⟩) (fun c _ => absurd le c) (fun c _ => absurd le c)
  · refine qX0_shotsOfSort_4 C (fun _ => vi (by omega) (by decide)) (fun c => absurd c (nle i hi)) (fun _ c => ?_) (fun _ c => ?_)
    · rw [nI_clamp (by omega)] at c
      simp only [sSort, if_neg c] at ih
      rw [nI_1]; exact ih
    · rw [nI_clamp (by omega)] at c
      simp only [sSort, if_pos c] at ih
      rw [nI_1]; exact ih
theorem tX0_lastOf {row : Int32} (C : Cty M a) (hn : mi M a 0 = nI n) (h10 : n ≤ 10) : R0 g YX0_lastOf d [.ref a, .int row] M (Ans (sLast row n) M) := by
  refine R0.of (by decide +kernel) (Nat.le_of_ble_eq_true rfl) rfl (qX0_lastOf_0 ?_)
  have le : mi M a 0 ≤ nI n := by rw [hn]; exact nI_le (Nat.le_refl _) (by omega)
  have nle : ∀ i, i < n → ¬ mi M a 0 ≤ nI i := fun i hi => by rw [hn, nI_leI (by omega) (by omega)]; omega
  refine up0 (p := fun i => E0 g YX0_lastOf d 4 [(0, .ref a), (1, .int row), (2, .int (sLast row i)), (3, .int (nI i))] [] M _) n ?_ (fun i hi ih => ?_)
  · exact qX0_lastOf_4 C (fun _ => ⟨rfl, rfl⟩) (fun c _ => absurd le c) (fun c _ => absurd le c)
  · refine qX0_lastOf_4 C (fun c => absurd c (nle i hi)) (fun _ c => ?_) (fun _ c => ?_)
    · rw [bit_f row (by omega)] at c
      simp only [sLast, c, Bool.false_eq_true, if_false] at ih
      rw [nI_1]; exact ih
    · rw [bit_t row (by omega)] at c
      simp only [sLast, c, if_true] at ih
      rw [nI_1]; exact ih
theorem tX0_behind {set row : Int32} (C : Cty M a) (hn : mi M a 0 = nI n) (h10 : n ≤ 10) : R0 g YX0_behind d [.ref a, .int set, .int row] M (Ans (sBeh set row n).1 M) := by
  refine R0.of (by decide +kernel) (Nat.le_of_ble_eq_true rfl) rfl (qX0_behind_0 ?_)
  have le : mi M a 0 ≤ nI n := by rw [hn]; exact nI_le (Nat.le_refl _) (by omega)
  have nle : ∀ i, i < n → ¬ mi M a 0 ≤ nI i := fun i hi => by rw [hn, nI_leI (by omega) (by omega)]; omega
  refine up0 (p := fun i => E0 g YX0_behind d 8 [(0, .ref a), (1, .int set), (2, .int row), (3, .int (sBeh set row i).1), (4, .int (b2i (sBeh set row i).2)), (5, .int (nI i))] [] M _) n ?_ (fun i hi ih => ?_)
  · exact qX0_behind_8 C (fun _ => ⟨rfl, rfl⟩) (fun c _ => absurd le c) (fun c _ _ _ => absurd le c) (fun c _ _ _ => absurd le c) (fun c _ _ _ => absurd le c) (fun c _ _ _ => absurd le c)
  · refine qX0_behind_8 C (fun c => absurd c (nle i hi)) (fun _ c => ?_) (fun _ c c1 c2 => ?_) (fun _ c c1 c2 => ?_) (fun _ c c1 c2 => ?_) (fun _ c c1 c2 => ?_)
    · rw [bit_f row (by omega)] at c
      simp only [sBeh, c, Bool.false_eq_true, if_false] at ih
      rw [nI_1]; exact ih
    · rw [bit_t row (by omega)] at c
      rw [b2i_z] at c1
      rw [bit_f set (by omega)] at c2
      simp only [sBeh, c, c1, c2, if_true, Bool.false_eq_true, if_false] at ih
      rw [nI_1]; exact ih
    · rw [bit_t row (by omega)] at c
      rw [b2i_z] at c1
      rw [bit_t set (by omega)] at c2
      simp only [sBeh, c, c1, c2, if_true, Bool.false_eq_true, if_false] at ih
      rw [nI_1]; exact ih
    · rw [bit_t row (by omega)] at c
      rw [b2i_n] at c1
      rw [bit_f set (by omega)] at c2
      simp only [sBeh, c, c1, c2, if_true] at ih
      rw [nI_1]; exact ih
    · rw [bit_t row (by omega)] at c
      rw [b2i_n] at c1
      rw [bit_t set (by omega)] at c2
      simp only [sBeh, c, c1, c2, if_true] at ih
      rw [nI_1]; exact ih
theorem tX0_allNeeds {k : Nat} (C : Cty M a) (hn : mi M a 0 = nI n) (h10 : n ≤ 10) (hk : k < n) (hd : 1 ≤ d) : R0 g YX0_allNeeds d [.ref a, .int (nI k)] M (Ans (sKin (mi M (a + 4)) n (mi M (a + 4) k) n) M) := by
  have le : mi M a 0 ≤ nI n := by rw [hn]; exact nI_le (Nat.le_refl _) (by omega)
  have nle : ∀ i, i < n → ¬ mi M a 0 ≤ nI i := fun i hi => by rw [hn, nI_leI (by omega) (by omega)]; omega
  refine R0.of (by decide +kernel) (Nat.le_of_ble_eq_true rfl) rfl (qX0_allNeeds_0 C (K0.ans (d1 := d - 1) (by omega) (tX0_isShot C) ?_))
  rw [hn, sIn_nI (by omega) (by omega), decide_eq_true hk]
  refine qX0_allNeeds_5 C (fun _ => vi (by omega) (by decide)) (fun c => absurd c (by decide)) (fun _ => ?_)
  rw [nI_clamp (by omega)]
  refine up0 (p := fun i => E0 g YX0_allNeeds d 21 [(0, .ref a), (2, .int (sKin (mi M (a + 4)) n (mi M (a + 4) k) i)), (3, .int (nI i))] [] M _) n ?_ (fun i hi ih => ?_)
  · exact qX0_allNeeds_21 C (fun _ => ⟨rfl, rfl⟩) (fun c => absurd le c)
  · refine qX0_allNeeds_21 C (fun c => absurd c (nle i hi)) (fun _ => ?_)
    refine up0 (p := fun j => E0 g YX0_allNeeds d 32 [(0, .ref a), (2, .int (sPass (mi M (a + 4)) (sKin (mi M (a + 4)) n (mi M (a + 4) k) i) j)), (3, .int (nI i)), (4, .int (nI j))] [] M _) n ?_ (fun j hj ih2 => ?_)
    · refine qX0_allNeeds_32 C (fun c _ => absurd le c) (fun _ => ?_) (fun c _ => absurd le c) (fun c _ => absurd le c)
      rw [nI_1]; exact ih
    · refine qX0_allNeeds_32 C (fun _ _ => vi (by omega) (by decide)) (fun c => absurd c (nle j hj)) (fun _ c => ?_) (fun _ c => ?_)
      · rw [bit_f _ (by omega)] at c
        simp only [sPass, c, Bool.false_eq_true, if_false] at ih2
        rw [nI_1]; exact ih2
      · rw [bit_t _ (by omega)] at c
        simp only [sPass, c, if_true] at ih2
        rw [nI_1, nI_clamp (by omega)]; exact ih2
end TX0
