/-! ===== contracts of CountyPrint: asking ===== -/
/-- a county: shots, halls, sorts, lengths, needs, kinds, verdicts -/
abbrev CD : Type := Nat × Nat × (Nat → Int32) × (Nat → Int32) × (Nat → Int32) × (Nat → Int32) × (Nat → Int32)
abbrev cn (c : CD) : Nat := c.1
abbrev ch (c : CD) : Nat := c.2.1
abbrev csrt (c : CD) : Nat → Int32 := c.2.2.1
abbrev clen (c : CD) : Nat → Int32 := c.2.2.2.1
abbrev cnds (c : CD) : Nat → Int32 := c.2.2.2.2.1
abbrev ckd (c : CD) : Nat → Int32 := c.2.2.2.2.2.1
abbrev cvd (c : CD) : Nat → Int32 := c.2.2.2.2.2.2
def CoIs (M : MM) (a : Nat) (c : CD) : Prop := mi M a 0 = nI (cn c) ∧ cn c ≤ 10 ∧ mi M a 5 = nI (ch c) ∧ ch c ≤ 6 ∧ mi M (a + 2) = csrt c ∧ mi M (a + 3) = clen c ∧ mi M (a + 4) = cnds c ∧ mi M (a + 6) = ckd c ∧ mi M (a + 11) = cvd c
theorem CoIs.fr {S : Nat → Prop} {M M1 : MM} {a : Nat} {c : CD} (h : CoIs M a c) (F : Fr S M M1) (hS : ∀ k, k < 12 → ¬ S (a + k)) : CoIs M1 a c := by
  unfold CoIs at h ⊢
  rw [show mi M1 a = mi M a from F.i (hS 0 (by omega)), F.i (hS 2 (by omega)), F.i (hS 3 (by omega)), F.i (hS 4 (by omega)), F.i (hS 6 (by omega)), F.i (hS 11 (by omega))]
  exact h
def cTk (c : CD) (hl : Nat) (row : Int32) : Int32 := sTk (cn c) (ckd c hl) (sHat (csrt c) (cvd c) hl row (cn c)).1 row
def cMin (c : CD) (row : Int32) : Int32 := sMin (clen c) row (cn c)
def cSen (c : CD) (row : Int32) : Bool := sSn (cnds c) row (cn c) 0
def cFilm (c : CD) : Int32 := ((1 : Int32) <<< (nI (cn c) &&& 31)) - 1
/-- the next hall is one of the county's -/
def tOk (c : CD) (v : TV) : Prop := if ch c = 0 then tx v = 0 else ∃ k, k < ch c ∧ tx v = nI k
/-- the place of a hall in the order, the hall of a place -/
def spl (c : CD) (v : TV) (k : Nat) : Nat := if tu v then ch c - 1 - k else k
theorem spl_lt {c : CD} {v : TV} {k : Nat} (h : k < ch c) : spl c v k < ch c := by unfold spl; split <;> omega
theorem spl_spl {c : CD} {v : TV} {k : Nat} (h : k < ch c) : spl c v (spl c v k) = k := by
  unfold spl
  cases tu v
  · simp
  · simp only [if_true]; omega
theorem spl_nI {c : CD} {v : TV} {k : Nat} (h6 : ch c ≤ 6) (h : k < ch c) : (if tu v then (nI (ch c) - 1) - nI k else nI k) = nI (spl c v k) := by
  unfold spl
  split
  · rw [show (1 : Int32) = nI 1 from rfl, pk_sub (by omega), pk_sub (by omega)]
  · rfl
def tNx (v : TV) : Nat := (tx v).toNatClampNeg
/-- the place from which the next halls come -/
def nPl (c : CD) (v : TV) : Nat := if ch c = 0 then 0 else spl c v (tNx v)
theorem tOk.nx {c : CD} {v : TV} (h : tOk c v) (h6 : ch c ≤ 6) (h0 : ch c ≠ 0) : tNx v < ch c ∧ tx v = nI (tNx v) := by
  unfold tOk at h
  rw [if_neg h0] at h
  obtain ⟨k, hk, e⟩ := h
  unfold tNx
  rw [e, nI_clamp (by omega)]
  exact ⟨hk, rfl⟩
theorem nPl_le {c : CD} {v : TV} (h : tOk c v) (h6 : ch c ≤ 6) : nPl c v ≤ ch c := by
  unfold nPl
  split
  · omega
  · rename_i h0
    have := spl_lt (v := v) (h.nx h6 h0).1
    omega
/-- what is left of a row behind j halls from place p on -/
def rowF (c : CD) (v : TV) : Nat → Nat → Int32 → Int32
  | 0, _, row => row
  | j + 1, p, row => rowF c v j (p + 1) (row &&& (cTk c (spl c v p) row ^^^ (-1)))
def sillyF (c : CD) (v : TV) : Nat → Nat → Int32 → Int32
  | 0, _, _ => -1
  | j + 1, p, row => if cSen c (row &&& (cTk c (spl c v p) row ^^^ (-1))) then sillyF c v j (p + 1) (row &&& (cTk c (spl c v p) row ^^^ (-1))) else nI (spl c v p)
def goneF (c : CD) (v : TV) (k : Int32) : Nat → Nat → Int32 → Int32
  | 0, _, _ => -1
  | j + 1, p, row => if ((cTk c (spl c v p) row >>> (k &&& 31)) &&& 1) = 1 then nI (spl c v p) else goneF c v k j (p + 1) (row &&& (cTk c (spl c v p) row ^^^ (-1)))
def togF (c : CD) (v : TV) (but : Int32) : Nat → Nat → Int32 → Int32 → Int32
  | 0, _, _, m => m
  | j + 1, p, row, m => if nI (spl c v p) = but then togF c v but j (p + 1) row (m + cMin c row) else togF c v but j (p + 1) (row &&& (cTk c (spl c v p) row ^^^ (-1))) (m + cMin c (row &&& (cTk c (spl c v p) row ^^^ (-1))))
def ahdF (c : CD) (v : TV) : Nat → Nat → Int32 → Int32
  | 0, _, s => s
  | j + 1, p, s => ahdF c v j (p + 1) (s ||| ((1 : Int32) <<< (nI (spl c v p) &&& 31)))
def hoardF (c : CD) (v : TV) (al : Int32) : Nat → Nat → Int32 → Int32 → Int32
  | 0, _, _, b => b
  | j + 1, i, m, b => if cMin c (td v i &&& al) ≤ m then hoardF c v al j (i + 1) m b else hoardF c v al j (i + 1) (cMin c (td v i &&& al)) (nI i)
def longF (c : CD) (v : TV) : Nat → Nat → Int32 → Int32
  | 0, _, m => m
  | j + 1, i, m => longF c v j (i + 1) (if m < jBit (sUn (csrt c) (tp v) (cn c - i) i 0) then jBit (sUn (csrt c) (tp v) (cn c - i) i 0) else m)
section TX11
variable {g : GG} {d : Nat} {M : MM} {la lb pa pb rl : Nat} {c : CD} {v : TV}
theorem cTaken {a : Nat} {hl : Nat} {row : Int32} (C : Cty M a) (K : CoIs M a c) (h : hl < ch c) (hd : 3 ≤ d) : R0 g YX0_takenOut d [.ref a, .int (nI hl), .int row] M (Ans (cTk c hl row) M) := by
  have := tX0_takenOut (g := g) (d := d) (row := row) C K.1 K.2.1 K.2.2.1 K.2.2.2.1 h hd
  rw [K.2.2.2.2.1, K.2.2.2.2.2.2.2.1, K.2.2.2.2.2.2.2.2] at this
  exact this
theorem cMinutes {a : Nat} {row : Int32} (C : Cty M a) (K : CoIs M a c) : R0 g YX0_minutesOf d [.ref a, .int row] M (Ans (cMin c row) M) := by
  have := tX0_minutesOf (g := g) (d := d) (row := row) C K.1 K.2.1
  rw [K.2.2.2.2.2.1] at this
  exact this
theorem cSense {a : Nat} {row : Int32} (C : Cty M a) (K : CoIs M a c) : R0 g YX0_makesSense d [.ref a, .int row] M (Ans (b2i (cSen c row)) M) := by
  have := tX0_makesSense (g := g) (d := d) (row := row) C K.1 K.2.1
  rw [K.2.2.2.2.2.2.1] at this
  exact this
theorem cSwap {a t : Nat} {k : Nat} (C : Trv M t) (V : TrIs M t v) (C1 : Cty M a) (K : CoIs M a c) (h : k < ch c) : R0 g YX10_swapPlace d [.ref t, .ref a, .int (nI k)] M (Ans (nI (spl c v k)) M) := by
  have := tX10_swapPlace (g := g) (d := d) (v := v) (x := nI k) C C1 V.2.2.1
  rw [K.2.2.1, spl_nI K.2.2.2.1 h] at this
  exact this
theorem cIsShot {a : Nat} {i : Int32} (C : Cty M a) (K : CoIs M a c) : R0 g YX0_isShot d [.ref a, .int i] M (Ans (b2i (sIn i (nI (cn c)))) M) := by
  have := tX0_isShot (g := g) (d := d) (i := i) C
  rw [K.1] at this
  exact this
theorem cIsHall {a : Nat} {i : Int32} (C : Cty M a) (K : CoIs M a c) : R0 g YX0_isHall d [.ref a, .int i] M (Ans (b2i (sIn i (nI (ch c)))) M) := by
  have := tX0_isHall (g := g) (d := d) (i := i) C
  rw [K.2.2.1] at this
  exact this
theorem h0 {c : CD} (h6 : ch c ≤ 6) : nI (ch c) = 0 ↔ ch c = 0 := by
  rw [← nI_0]; exact nI_eq (by omega) (by omega)
theorem tX11_nextPlace (L : Lay M la lb pa pb rl) (K : CoIs M la c) (V : TrIs M 39 v) (O : tOk c v) (hd : 1 ≤ d) : R0 g YX11_nextPlace d [.ref 0] M (Ans (nI (nPl c v)) M) := by
  refine R0.of (by decide +kernel) (Nat.le_of_ble_eq_true rfl) rfl (qX11_nextPlace_0 L (fun q => ?_) (fun q => ?_))
  · rw [K.2.2.1, h0 K.2.2.2.1] at q
    obtain ⟨h1, h2⟩ := O.nx K.2.2.2.1 q
    rw [V.2.2.2.1, h2]
    refine K0.ans (d1 := d - 1) (by omega) (cSwap L.tn V L.cla K h1) (qX11_nextPlace_32 ⟨?_, rfl⟩)
    unfold nPl
    rw [if_neg q]
  · rw [K.2.2.1, h0 K.2.2.2.1] at q
    refine qX11_nextPlace_32 ⟨?_, rfl⟩
    unfold nPl
    rw [if_pos q]
    rfl
theorem tX11_nextHall (L : Lay M la lb pa pb rl) (K : CoIs M la c) (V : TrIs M 39 v) : R0 g YX11_nextHall d [.ref 0] M (Ans (if ch c = 0 then -1 else tx v) M) := by
  refine R0.of (by decide +kernel) (Nat.le_of_ble_eq_true rfl) rfl (qX11_nextHall_0 L (fun q => ?_) (fun q => ?_)) <;> rw [K.2.2.1, h0 K.2.2.2.1] at q
  · rw [if_neg q]; exact ⟨by rw [V.2.2.2.1], rfl⟩
  · rw [if_pos q]; exact ⟨rfl, rfl⟩
def isAhd (c : CD) (v : TV) (i : Int32) : Bool := sIn i (nI (ch c)) && decide (nPl c v ≤ spl c v i.toNatClampNeg)
theorem tX11_isAhead {i : Int32} (L : Lay M la lb pa pb rl) (K : CoIs M la c) (V : TrIs M 39 v) (O : tOk c v) (hd : 2 ≤ d) : R0 g YX11_isAhead d [.ref 0, .int i] M (Ans (b2i (isAhd c v i)) M) := by
  refine R0.of (by decide +kernel) (Nat.le_of_ble_eq_true rfl) rfl (qX11_isAhead_0 L (K0.ans (d1 := d - 1) (by omega) (cIsHall L.cla K) (qX11_isAhead_8 L (fun q => ?_) (fun q => ?_))))
  · rw [b2i_z] at q
    simp [Ans, isAhd, q, b2i]
  · rw [b2i_n] at q
    obtain ⟨k, hk, rfl⟩ := sIn_of (by have := K.2.2.2.1; omega) q
    have h6 := K.2.2.2.1
    refine K0.ans (d1 := d - 1) (by omega) (cSwap L.tn V L.cla K hk) (qX11_isAhead_23 L (K0.ans (d1 := d - 1) (by omega) (tX11_nextPlace L K V O (by omega)) (qX11_isAhead_27 (fun r => ?_) (fun r => ?_))))
    · have hs := spl_lt (v := v) hk
      have hp := nPl_le O h6
      rw [nI_ltI (by omega) (by omega)] at r
      have : ¬ nPl c v ≤ spl c v k := by omega
      simp [Ans, isAhd, q, nI_clamp (show k < 2 ^ 31 by omega), this, b2i]
    · have hs := spl_lt (v := v) hk
      have hp := nPl_le O h6
      rw [nI_ltI (by omega) (by omega)] at r
      have : nPl c v ≤ spl c v k := by omega
      simp [Ans, isAhd, q, nI_clamp (show k < 2 ^ 31 by omega), this, b2i]
theorem tX11_rowShownAt {i : Int32} (L : Lay M la lb pa pb rl) (K : CoIs M la c) (V : TrIs M 39 v) (O : tOk c v) (hd : 4 ≤ d) : R0 g YX11_rowShownAt d [.ref 0, .int i] M (Ans (if isAhd c v i then rowF c v (spl c v i.toNatClampNeg + 1 - nPl c v) (nPl c v) (tp v) else -1) M) := by
  have h6 := K.2.2.2.1
  refine R0.of (by decide +kernel) (Nat.le_of_ble_eq_true rfl) rfl (qX11_rowShownAt_0 L (K0.ans (d1 := d - 1) (by omega) (tX11_isAhead L K V O (by omega)) (qX11_rowShownAt_5 L (fun q => ?_) (fun q => ?_))))
  · rw [b2i_n] at q
    rw [q, if_pos rfl]
    have q2 := q
    unfold isAhd at q2
    simp only [Bool.and_eq_true, decide_eq_true_eq] at q2
    obtain ⟨k, hk, rfl⟩ := sIn_of (by omega) q2.1
    have q3 := q2.2
    rw [nI_clamp (by omega)] at q3 ⊢
    have hs := spl_lt (v := v) hk
    refine K0.ans (d1 := d - 1) (by omega) (cSwap L.tn V L.cla K hk) (qX11_rowShownAt_30 L (K0.ans (d1 := d - 1) (by omega) (tX11_nextPlace L K V O (by omega)) (qX11_rowShownAt_35 ?_)))
    rw [V.1]
    refine up (p := fun p => ∀ row, E0 g YX11_rowShownAt d 37 [(0, .ref 0), (2, .int row), (3, .int (nI (spl c v k))), (4, .int (nI p))] [] M (Ans (rowF c v (spl c v k + 1 - p) p row) M)) (spl c v k + 1) (fun row => ?_) (fun p hp ih row => ?_) (nPl c v) (by omega) (tp v)
    · rw [Nat.sub_self]
      exact qX11_rowShownAt_37 L (fun _ => ⟨rfl, rfl⟩) (fun r => absurd ((nI_ltI (by omega) (by omega)).mpr (by omega)) r)
    · have e : spl c v k + 1 - p = (spl c v k + 1 - (p + 1)) + 1 := by omega
      rw [e, rowF]
      have hpc : p < ch c := by omega
      refine qX11_rowShownAt_37 L (fun r => by rw [nI_ltI (by omega) (by omega)] at r; omega) (fun _ => K0.ans (d1 := d - 1) (by omega) (cSwap L.tn V L.cla K hpc) (qX11_rowShownAt_61 L.cla.o (K0.ans (d1 := d - 1) (by omega) (cTaken L.cla K (spl_lt hpc) (by omega)) (qX11_rowShownAt_65 ?_))))
      rw [nI_1]; exact ih _
  · rw [b2i_z] at q
    rw [q]; exact ⟨rfl, rfl⟩
theorem tX11_shown {i x : Int32} (L : Lay M la lb pa pb rl) (K : CoIs M la c) (V : TrIs M 39 v) (O : tOk c v) (hd : 5 ≤ d) : R0 g YX11_shown d [.ref 0, .int i, .int x] M (Ans (if (if isAhd c v i then rowF c v (spl c v i.toNatClampNeg + 1 - nPl c v) (nPl c v) (tp v) else -1) = -1 then -1 else sAt (if isAhd c v i then rowF c v (spl c v i.toNatClampNeg + 1 - nPl c v) (nPl c v) (tp v) else -1) x (cn c) 0 0) M) := by
  refine R0.of (by decide +kernel) (Nat.le_of_ble_eq_true rfl) rfl (qX11_shown_0 L (K0.ans (d1 := d - 1) (by omega) (tX11_rowShownAt L K V O (by omega)) (qX11_shown_5 L (fun q => ?_) (fun q => ?_))))
  · rw [if_neg q]
    exact K0.ans (d1 := d - 1) (by omega) (tX0_shotAt L.cla K.1 K.2.1) (qX11_shown_24 ⟨rfl, rfl⟩)
  · rw [if_pos q]
    exact qX11_shown_24 ⟨rfl, rfl⟩
theorem tX11_minutes {i : Int32} (L : Lay M la lb pa pb rl) (K : CoIs M la c) (V : TrIs M 39 v) (O : tOk c v) (hd : 5 ≤ d) : R0 g YX11_minutes d [.ref 0, .int i] M (Ans (if (if isAhd c v i then rowF c v (spl c v i.toNatClampNeg + 1 - nPl c v) (nPl c v) (tp v) else -1) = -1 then -1 else cMin c (if isAhd c v i then rowF c v (spl c v i.toNatClampNeg + 1 - nPl c v) (nPl c v) (tp v) else -1)) M) := by
  refine R0.of (by decide +kernel) (Nat.le_of_ble_eq_true rfl) rfl (qX11_minutes_0 L (K0.ans (d1 := d - 1) (by omega) (tX11_rowShownAt L K V O (by omega)) (qX11_minutes_5 L (fun q => ?_) (fun q => ?_))))
  · rw [if_neg q]
    exact K0.ans (d1 := d - 1) (by omega) (cMinutes L.cla K) (qX11_minutes_23 ⟨rfl, rfl⟩)
  · rw [if_pos q]
    exact qX11_minutes_23 ⟨rfl, rfl⟩
theorem tX11_silly (L : Lay M la lb pa pb rl) (K : CoIs M la c) (V : TrIs M 39 v) (O : tOk c v) (hd : 4 ≤ d) : R0 g YX11_silly d [.ref 0] M (Ans (sillyF c v (ch c - nPl c v) (nPl c v) (tp v)) M) := by
  have h6 := K.2.2.2.1
  have le : mi M la 5 ≤ nI (ch c) := by rw [K.2.2.1]; exact nI_le (Nat.le_refl _) (by omega)
  have nle : ∀ i, i < ch c → ¬ mi M la 5 ≤ nI i := fun i hi => by rw [K.2.2.1, nI_leI (by omega) (by omega)]; omega
  refine R0.of (by decide +kernel) (Nat.le_of_ble_eq_true rfl) rfl (qX11_silly_0 L (K0.ans (d1 := d - 1) (by omega) (tX11_nextPlace L K V O (by omega)) (qX11_silly_12 ?_)))
  rw [V.1]
  refine up (p := fun p => ∀ row, E0 g YX11_silly d 13 [(0, .ref 0), (1, .int row), (2, .int (nI p))] [] M (Ans (sillyF c v (ch c - p) p row) M)) (ch c) (fun row => ?_) (fun p hp ih row => ?_) (nPl c v) (nPl_le O h6) (tp v)
  · rw [Nat.sub_self]
    exact qX11_silly_13 L (fun _ => ⟨rfl, rfl⟩) (fun r => absurd le r)
  · have e : ch c - p = (ch c - (p + 1)) + 1 := by omega
    rw [e, sillyF]
    refine qX11_silly_13 L (fun r => absurd r (nle p hp)) (fun _ => K0.ans (d1 := d - 1) (by omega) (cSwap L.tn V L.cla K hp) (qX11_silly_36 L (K0.ans (d1 := d - 1) (by omega) (cTaken L.cla K (spl_lt hp) (by omega)) (qX11_silly_47 L (K0.ans (d1 := d - 1) (by omega) (cSense L.cla K) (qX11_silly_59 (fun r => ?_) (fun r => ?_)))))))
    · rw [b2i_n] at r
      rw [r, if_pos rfl, nI_1]; exact ih _
    · rw [b2i_z] at r
      rw [r]; exact ⟨rfl, rfl⟩
theorem tX11_gone {i : Int32} (L : Lay M la lb pa pb rl) (K : CoIs M la c) (V : TrIs M 39 v) (O : tOk c v) (hd : 4 ≤ d) : R0 g YX11_gone d [.ref 0, .int i] M (Ans (if sIn i (nI (cn c)) then goneF c v i (ch c - nPl c v) (nPl c v) (tp v) else -1) M) := by
  have h6 := K.2.2.2.1
  have le : mi M la 5 ≤ nI (ch c) := by rw [K.2.2.1]; exact nI_le (Nat.le_refl _) (by omega)
  have nle : ∀ i, i < ch c → ¬ mi M la 5 ≤ nI i := fun i hi => by rw [K.2.2.1, nI_leI (by omega) (by omega)]; omega
  refine R0.of (by decide +kernel) (Nat.le_of_ble_eq_true rfl) rfl (qX11_gone_0 L (K0.ans (d1 := d - 1) (by omega) (cIsShot L.cla K) (qX11_gone_8 L (fun q => ?_) (fun q => ?_))))
  · rw [b2i_n] at q
    rw [q, if_pos rfl]
    refine K0.ans (d1 := d - 1) (by omega) (tX11_nextPlace L K V O (by omega)) (qX11_gone_25 ?_)
    rw [V.1]
    refine up (p := fun p => ∀ row, E0 g YX11_gone d 26 [(0, .ref 0), (1, .int i), (2, .int row), (3, .int (nI p))] [] M (Ans (goneF c v i (ch c - p) p row) M)) (ch c) (fun row => ?_) (fun p hp ih row => ?_) (nPl c v) (nPl_le O h6) (tp v)
    · rw [Nat.sub_self]
      exact qX11_gone_26 L (fun _ => ⟨rfl, rfl⟩) (fun r => absurd le r)
    · have e : ch c - p = (ch c - (p + 1)) + 1 := by omega
      rw [e, goneF]
      refine qX11_gone_26 L (fun r => absurd r (nle p hp)) (fun _ => K0.ans (d1 := d - 1) (by omega) (cSwap L.tn V L.cla K hp) (qX11_gone_49 L (K0.ans (d1 := d - 1) (by omega) (cTaken L.cla K (spl_lt hp) (by omega)) (qX11_gone_61 (fun r => ?_) (fun r => ?_)))))
      · rw [if_neg r, nI_1]; exact ih _
      · rw [if_pos r]; exact ⟨rfl, rfl⟩
  · rw [b2i_z] at q
    rw [q]; exact ⟨rfl, rfl⟩
theorem tX11_minutesTogether {but : Int32} (L : Lay M la lb pa pb rl) (K : CoIs M la c) (V : TrIs M 39 v) (O : tOk c v) (hd : 4 ≤ d) : R0 g YX11_minutesTogether d [.ref 0, .int but] M (Ans (togF c v but (ch c - nPl c v) (nPl c v) (tp v) 0) M) := by
  have h6 := K.2.2.2.1
  have le : mi M la 5 ≤ nI (ch c) := by rw [K.2.2.1]; exact nI_le (Nat.le_refl _) (by omega)
  have nle : ∀ i, i < ch c → ¬ mi M la 5 ≤ nI i := fun i hi => by rw [K.2.2.1, nI_leI (by omega) (by omega)]; omega
  refine R0.of (by decide +kernel) (Nat.le_of_ble_eq_true rfl) rfl (qX11_minutesTogether_0 L (K0.ans (d1 := d - 1) (by omega) (tX11_nextPlace L K V O (by omega)) (qX11_minutesTogether_14 ?_)))
  rw [V.1]
  refine up (p := fun p => ∀ row m, E0 g YX11_minutesTogether d 16 [(0, .ref 0), (1, .int but), (2, .int row), (3, .int m), (4, .int (nI p))] [] M (Ans (togF c v but (ch c - p) p row m) M)) (ch c) (fun row m => ?_) (fun p hp ih row m => ?_) (nPl c v) (nPl_le O h6) (tp v) 0
  · rw [Nat.sub_self]
    exact qX11_minutesTogether_16 L (fun _ => ⟨rfl, rfl⟩) (fun r => absurd le r)
  · have e : ch c - p = (ch c - (p + 1)) + 1 := by omega
    rw [e, togF]
    refine qX11_minutesTogether_16 L (fun r => absurd r (nle p hp)) (fun _ => K0.ans (d1 := d - 1) (by omega) (cSwap L.tn V L.cla K hp) (qX11_minutesTogether_41 L (fun r => ?_) (fun r => ?_)))
    · rw [if_pos r]
      refine K0.ans (d1 := d - 1) (by omega) (cMinutes L.cla K) (qX11_minutesTogether_73 ?_)
      rw [nI_1]; exact ih _ _
    · rw [if_neg r]
      refine K0.ans (d1 := d - 1) (by omega) (cTaken L.cla K (spl_lt hp) (by omega)) (qX11_minutesTogether_60 L (K0.ans (d1 := d - 1) (by omega) (cMinutes L.cla K) (qX11_minutesTogether_73 ?_)))
      rw [nI_1]; exact ih _ _
theorem tX11_hallsAhead (L : Lay M la lb pa pb rl) (K : CoIs M la c) (V : TrIs M 39 v) (O : tOk c v) (hd : 2 ≤ d) : R0 g YX11_hallsAhead d [.ref 0] M (Ans (ahdF c v (ch c - nPl c v) (nPl c v) 0) M) := by
  have h6 := K.2.2.2.1
  have le : mi M la 5 ≤ nI (ch c) := by rw [K.2.2.1]; exact nI_le (Nat.le_refl _) (by omega)
  have nle : ∀ i, i < ch c → ¬ mi M la 5 ≤ nI i := fun i hi => by rw [K.2.2.1, nI_leI (by omega) (by omega)]; omega
  refine R0.of (by decide +kernel) (Nat.le_of_ble_eq_true rfl) rfl (qX11_hallsAhead_0 L (K0.ans (d1 := d - 1) (by omega) (tX11_nextPlace L K V O (by omega)) (qX11_hallsAhead_6 ?_)))
  refine up (p := fun p => ∀ s, E0 g YX11_hallsAhead d 7 [(0, .ref 0), (1, .int s), (2, .int (nI p))] [] M (Ans (ahdF c v (ch c - p) p s) M)) (ch c) (fun s => ?_) (fun p hp ih s => ?_) (nPl c v) (nPl_le O h6) 0
  · rw [Nat.sub_self]
    exact qX11_hallsAhead_7 L (fun _ => ⟨rfl, rfl⟩) (fun r => absurd le r)
  · have e : ch c - p = (ch c - (p + 1)) + 1 := by omega
    rw [e, ahdF]
    refine qX11_hallsAhead_7 L (fun r => absurd r (nle p hp)) (fun _ => K0.ans (d1 := d - 1) (by omega) (cSwap L.tn V L.cla K hp) (qX11_hallsAhead_32 ?_))
    rw [nI_1]; exact ih _
theorem tX11_sense (L : Lay M la lb pa pb rl) (K : CoIs M la c) (V : TrIs M 39 v) (hd : 1 ≤ d) : R0 g YX11_sense d [.ref 0] M (Ans (b2i (cSen c (tp v))) M) := by
  refine R0.of (by decide +kernel) (Nat.le_of_ble_eq_true rfl) rfl (qX11_sense_0 L ?_)
  rw [V.1]
  exact K0.ans (d1 := d - 1) (by omega) (cSense L.cla K) (qX11_sense_14 (b2i_1 _) ⟨rfl, rfl⟩)
theorem tX11_kin {i : Int32} (L : Lay M la lb pa pb rl) (K : CoIs M la c) (hd : 2 ≤ d) : R0 g YX11_kin d [.ref 0, .int i] M (Ans (if sIn i (nI (cn c)) then sKin (cnds c) (cn c) (cnds c i.toNatClampNeg) (cn c) else -1) M) := by
  refine R0.of (by decide +kernel) (Nat.le_of_ble_eq_true rfl) rfl (qX11_kin_0 L (K0.ans (d1 := d - 1) (by omega) (cIsShot L.cla K) (qX11_kin_8 L (fun q => ?_) (fun q => ?_))))
  · rw [b2i_z] at q
    rw [q]; exact ⟨rfl, rfl⟩
  · rw [b2i_n] at q
    rw [q, if_pos rfl]
    obtain ⟨k, hk, rfl⟩ := sIn_of (by have := K.2.1; omega) q
    have hk10 := K.2.1
    have := tX0_allNeeds (g := g) (d := d - 1) L.cla K.1 K.2.1 hk (by omega)
    rw [K.2.2.2.2.2.2.1] at this
    rw [nI_clamp (by omega)]
    exact K0.ans (d1 := d - 1) (by omega) this (qX11_kin_19 ⟨rfl, rfl⟩)
theorem tX11_hoard {i : Int32} (L : Lay M la lb pa pb rl) (K : CoIs M la c) (V : TrIs M 39 v) (hd : 1 ≤ d) : R0 g YX11_hoard d [.ref 0, .int i] M (Ans (if sIn i 10 then hoardF c v (sSort (csrt c) i (cn c)) (ch c) 0 0 (-1) else -1) M) := by
  have h6 := K.2.2.2.1
  have le : mi M la 5 ≤ nI (ch c) := by rw [K.2.2.1]; exact nI_le (Nat.le_refl _) (by omega)
  have nle : ∀ i, i < ch c → ¬ mi M la 5 ≤ nI i := fun i hi => by rw [K.2.2.1, nI_leI (by omega) (by omega)]; omega
  refine R0.of (by decide +kernel) (Nat.le_of_ble_eq_true rfl) rfl (qX11_hoard_0 L (fun q => ?_) (fun q1 q2 => ?_) (fun q1 q2 => ?_))
  · have : sIn i 10 = false := by simp [sIn, q]
    rw [this]; exact ⟨rfl, rfl⟩
  · have : sIn i 10 = true := by
      have : ¬ (10 : Int32) ≤ i := Int32.not_le.mpr q2
      simp [sIn, q1, this]
    rw [this, if_pos rfl]
    have hs := tX0_shotsOfSort (g := g) (d := d - 1) (x := i) L.cla K.1 K.2.1
    rw [K.2.2.2.2.1] at hs
    refine K0.ans (d1 := d - 1) (by omega) hs (qX11_hoard_20 ?_)
    refine up0 (p := fun k => ∀ m b, E0 g YX11_hoard d 29 [(0, .ref 0), (2, .int (sSort (csrt c) i (cn c))), (3, .int m), (4, .int b), (5, .int (nI k))] [] M (Ans (hoardF c v (sSort (csrt c) i (cn c)) (ch c - k) k m b) M)) (ch c) (fun m b => ?_) (fun k hk ih m b => ?_) 0 (-1)
    · rw [Nat.sub_self]
      exact qX11_hoard_29 L (fun r => absurd le r) (fun _ => ⟨rfl, rfl⟩) (fun r => absurd le r)
    · have e : ch c - k = (ch c - (k + 1)) + 1 := by omega
      rw [e, hoardF]
      refine qX11_hoard_29 L (fun _ => vi (by omega) (by decide)) (fun r => absurd r (nle k hk)) (fun _ => ?_)
      rw [nI_clamp (by omega), show mi M 40 k = td v k from V.2.1 k (by omega)]
      refine K0.ans (d1 := d - 1) (by omega) (cMinutes L.cla K) (qX11_hoard_60 (fun r => ?_) (fun r => ?_))
      · rw [if_pos r, nI_1]; exact ih _ _
      · rw [if_neg r, nI_1]; exact ih _ _
  · have : sIn i 10 = false := by
      have : (10 : Int32) ≤ i := Int32.not_lt.mp q2
      simp [sIn, this]
    rw [this]; exact ⟨rfl, rfl⟩
theorem tX11_longest (L : Lay M la lb pa pb rl) (K : CoIs M la c) (V : TrIs M 39 v) (hd : 2 ≤ d) : R0 g YX11_longest d [.ref 0] M (Ans (longF c v (cn c) 0 0) M) := by
  have h10 := K.2.1
  have le : mi M la 0 ≤ nI (cn c) := by rw [K.1]; exact nI_le (Nat.le_refl _) (by omega)
  have nle : ∀ i, i < cn c → ¬ mi M la 0 ≤ nI i := fun i hi => by rw [K.1, nI_leI (by omega) (by omega)]; omega
  refine R0.of (by decide +kernel) (Nat.le_of_ble_eq_true rfl) rfl (qX11_longest_0 ?_)
  refine up0 (p := fun k => ∀ m, E0 g YX11_longest d 4 [(0, .ref 0), (1, .int m), (2, .int (nI k))] [] M (Ans (longF c v (cn c - k) k m) M)) (cn c) (fun m => ?_) (fun k hk ih m => ?_) 0
  · rw [Nat.sub_self]
    exact qX11_longest_4 L (fun _ => ⟨rfl, rfl⟩) (fun r => absurd le r)
  · have e : cn c - k = (cn c - (k + 1)) + 1 := by omega
    have hu := tX0_unlikeFrom (g := g) (d := d - 1) (row := tp v) (f := k) L.cla K.1 K.2.1 (by omega) (by omega)
    rw [K.2.2.2.2.1] at hu
    refine qX11_longest_4 L (fun r => absurd r (nle k hk)) (fun _ => ?_)
    rw [V.1]
    refine K0.ans (d1 := d - 1) (by omega) hu (qX11_longest_31 (by omega) ?_)
    have ih2 := ih (if m < jBit (sUn (csrt c) (tp v) (cn c - k) k 0) then jBit (sUn (csrt c) (tp v) (cn c - k) k 0) else m)
    rw [nI_1]
    rw [show longF c v (cn c - k) k m = longF c v (cn c - (k + 1)) (k + 1) (if m < jBit (sUn (csrt c) (tp v) (cn c - k) k 0) then jBit (sUn (csrt c) (tp v) (cn c - k) k 0) else m) by rw [show longF c v (cn c - k) k m = longF c v ((cn c - (k + 1)) + 1) k m by rw [← e]]; rfl]
    exact ih2
theorem tX11_where {i : Int32} (L : Lay M la lb pa pb rl) (K : CoIs M la c) (V : TrIs M 39 v) (hd : 2 ≤ d) : R0 g YX11_where d [.ref 0, .int i] M (Ans (if sIn i (nI (cn c)) then tHold (mi M 40) i 6 0 else -1) M) := by
  refine R0.of (by decide +kernel) (Nat.le_of_ble_eq_true rfl) rfl (qX11_where_0 L (K0.ans (d1 := d - 1) (by omega) (cIsShot L.cla K) (qX11_where_8 L (fun q => ?_) (fun q => ?_))))
  · rw [b2i_z] at q
    rw [q]; exact ⟨rfl, rfl⟩
  · rw [b2i_n] at q
    rw [q, if_pos rfl]
    exact K0.ans (d1 := d - 1) (by omega) (tX10_holderOf L.tn (by omega)) (qX11_where_19 ⟨rfl, rfl⟩)
def cLies (c : CD) (v : TV) (i k : Int32) : Bool := sIn i (nI (ch c)) && (sIn k (nI (cn c)) && tHas (td v) i k)
theorem tX11_liesIn {i k : Int32} (L : Lay M la lb pa pb rl) (K : CoIs M la c) (V : TrIs M 39 v) (hd : 1 ≤ d) : R0 g YX11_liesIn d [.ref 0, .int i, .int k] M (Ans (b2i (cLies c v i k)) M) := by
  refine R0.of (by decide +kernel) (Nat.le_of_ble_eq_true rfl) rfl (qX11_liesIn_0 L (K0.ans (d1 := d - 1) (by omega) (cIsHall L.cla K) (qX11_liesIn_8 L (fun q => ?_) (fun q => ?_))))
  · rw [b2i_z] at q
    simp [Ans, cLies, q, b2i]
  · rw [b2i_n] at q
    refine K0.ans (d1 := d - 1) (by omega) (cIsShot L.cla K) (qX11_liesIn_19 L (fun q2 => ?_) (fun q2 => ?_))
    · rw [b2i_z] at q2
      simp [Ans, cLies, q2, b2i]
    · rw [b2i_n] at q2
      refine K0.ans (d1 := d - 1) (by omega) (tX10_holds L.tn) (qX11_liesIn_31 (fun q3 => ?_) (fun q3 => ?_))
      · rw [b2i_z, tHas_eq V.2.1] at q3
        simp [Ans, cLies, q3, b2i]
      · rw [b2i_n, tHas_eq V.2.1] at q3
        simp [Ans, cLies, q, q2, q3, b2i]
end TX11
