/-! ===== sets of shots, and where the shots lie ===== -/
def pb (f : Nat → Bool) : Nat → Int32
  | 0 => 0
  | k + 1 => if f k then pb f k ||| ((1 : Int32) <<< (nI k &&& 31)) else pb f k
theorem bt_pb (f : Nat → Bool) : ∀ (n : Nat), n ≤ 32 → ∀ i, i < 32 → bt (pb f n) i = (decide (i < n) && f i)
  | 0, _, i, _ => by rw [pb, b_0]; simp
  | n + 1, hn, i, hi => by
    have ih := bt_pb f n (by omega) i hi
    unfold pb
    by_cases e : i = n
    · subst e
      cases h : f i
      · rw [if_neg (by simp), ih]; simp
      · rw [if_pos rfl, b_or, ih, b_one hi hi]; simp
    · have e2 : decide (i < n + 1) = decide (i < n) := by
        by_cases q : i < n
        · simp [q, Nat.lt_succ_of_lt q]
        · have : ¬ i < n + 1 := by omega
          simp [q, this]
      rw [e2]
      split
      · rw [b_or, ih, b_one (by omega) hi]; simp [e]
      · exact ih
theorem pb_ext {x : Int32} {f : Nat → Bool} {n : Nat} (hn : n ≤ 32) (h : ∀ i, i < 32 → bt x i = (decide (i < n) && f i)) : x = pb f n := b_ext fun i hi => by rw [h i hi, bt_pb f n hn i hi]
theorem pb_cong {f h : Nat → Bool} {n : Nat} (hn : n ≤ 32) (e : ∀ i, i < n → f i = h i) : pb f n = pb h n := pb_ext hn fun i hi => by
  rw [bt_pb f n hn i hi]
  by_cases q : i < n
  · simp [q, e i q]
  · simp [q]
theorem bt_nI (m i : Nat) : bt (nI m) i = (decide (i < 32) && m.testBit i) := by
  show (BitVec.ofNat 32 m).getLsbD i = _
  rw [BitVec.getLsbD_ofNat]
/-- a set of the first ten -/
theorem small_of {x : Int32} (h : ∀ i, 10 ≤ i → i < 32 → bt x i = false) : ∃ m, m < 1024 ∧ x = nI m := by
  refine ⟨(x.toBitVec.setWidth 10).toNat, BitVec.isLt _, b_ext fun i hi => ?_⟩
  rw [bt_nI]
  show bt x i = (decide (i < 32) && (x.toBitVec.setWidth 10).getLsbD i)
  rw [BitVec.getLsbD_setWidth]
  rcases Nat.lt_or_ge i 10 with q | q
  · simp [q, hi, bt]
  · have : ¬ i < 10 := by omega
    simp [this, h i q hi]
theorem pb_small (f : Nat → Bool) {n : Nat} (hn : n ≤ 10) : ∃ m, m < 1024 ∧ pb f n = nI m := small_of fun i h1 h2 => by
  rw [bt_pb f n (by omega) i h2]
  have : ¬ i < n := by omega
  simp [this]
/-- how many: counted one by one -/
def sBits (x : Int32) : Nat → Int32
  | 0 => 0
  | k + 1 => sBits x k + ((x >>> (nI k &&& 31)) &&& 1)
theorem bits_all : ∀ m, m < 1024 → jBit (nI m) = sBits (nI m) 10 := by decide +kernel
theorem bits_le : ∀ m, m < 1024 → ¬ jBit (nI m) < 0 ∧ jBit (nI m) ≤ 10 ∧ (m ≠ 0 → ¬ jBit (nI m) < 1) := by decide +kernel
theorem film_pb : ∀ n, n ≤ 10 → ((1 : Int32) <<< (nI n &&& 31)) - 1 = pb (fun _ => true) n := by decide +kernel
/-- where each shot lies (0: in the print, h + 1: in hall h's drawer), whether the order is turned, the next hall, tours that are over -/
abbrev TT : Type := (Nat → Nat) × Bool × Nat × Int32
def tvOf (n : Nat) (T : TT) : TV := (pb (fun k => T.1 k == 0) n, fun h => pb (fun k => T.1 k == h + 1) n, T.2.1, nI T.2.2.1, T.2.2.2)
def TOk (c : CD) (T : TT) : Prop := (∀ k, k < cn c → T.1 k ≤ ch c) ∧ (if ch c = 0 then T.2.2.1 = 0 else T.2.2.1 < ch c)
theorem TOk.ok {c : CD} {T : TT} (h : TOk c T) : tOk c (tvOf (cn c) T) := by
  unfold tOk
  have h2 := h.2
  split
  · rename_i e
    rw [if_pos e] at h2
    show nI T.2.2.1 = 0
    rw [h2]; rfl
  · rename_i e
    rw [if_neg e] at h2
    exact ⟨_, h2, rfl⟩
def tShow (T : TT) (hl : Nat) (tk : Int32) : TT := (fun k => if bt tk k then hl + 1 else T.1 k, T.2.1, T.2.2.1, T.2.2.2)
def tLay (T : TT) (k x : Nat) : TT := (fun j => if j = k then x else T.1 j, T.2.1, T.2.2.1, T.2.2.2)
def tTurn (T : TT) : TT := (T.1, !T.2.1, T.2.2.1, T.2.2.2)
/-- on to the next hall -/
def tGo (T : TT) (h : Nat) : TT :=
  let p := (if T.2.1 then h - 1 - T.2.2.1 else T.2.2.1) + 1
  if p < h then (T.1, T.2.1, (if T.2.1 then h - 1 - p else p), T.2.2.2) else (T.1, T.2.1, (if T.2.1 then h - 1 else 0), T.2.2.2 + 1)
/-- x is a part of the first n shots that lie in the print -/
def inPr (n : Nat) (T : TT) (x : Int32) : Prop := ∀ i, i < 32 → bt x i = true → i < n ∧ T.1 i = 0
theorem vShow_T {n : Nat} {T : TT} {hl : Nat} {tk : Int32} (hn : n ≤ 32) (h : inPr n T tk) : vShow (tvOf n T) hl tk = tvOf n (tShow T hl tk) := by
  unfold vShow tvOf tShow
  refine Prod.ext ?_ (Prod.ext ?_ rfl)
  · refine pb_ext hn fun i hi => ?_
    show bt (pb _ n &&& (tk ^^^ (-1))) i = _
    rw [b_and, bt_pb _ n hn i hi, b_not tk hi]
    cases q : bt tk i
    · simp [q]
    · simp [q]
  · funext k
    show (if k = hl then pb (fun j => T.1 j == k + 1) n ||| tk else pb (fun j => T.1 j == k + 1) n) = pb (fun j => (if bt tk j then hl + 1 else T.1 j) == k + 1) n
    refine pb_ext hn fun i hi => ?_
    by_cases e : k = hl
    · subst e
      rw [if_pos rfl, b_or, bt_pb _ n hn i hi]
      cases q : bt tk i
      · simp [q]
      · simp [q, (h i hi q).1]
    · rw [if_neg e, bt_pb _ n hn i hi]
      cases q : bt tk i
      · simp [q]
      · have h1 := (h i hi q).2
        have h2 : ¬ hl = k := fun z => e z.symm
        simp [q, h1, h2]
theorem vGive_T {n : Nat} {T : TT} {hl k : Nat} (hn : n ≤ 32) (hk : k < n) (h : T.1 k = hl + 1) : vGive (tvOf n T) hl (nI k) = tvOf n (tLay T k 0) := by
  unfold vGive tvOf tLay
  refine Prod.ext ?_ (Prod.ext ?_ rfl)
  · refine pb_ext hn fun i hi => ?_
    show bt (pb _ n ||| _) i = _
    rw [b_or, bt_pb _ n hn i hi, b_one (by omega) hi]
    by_cases e : i = k
    · subst e; simp [hk]
    · simp [e]
  · funext j
    show (if j = hl then pb (fun x => T.1 x == j + 1) n &&& _ else pb (fun x => T.1 x == j + 1) n) = pb (fun x => (if x = k then 0 else T.1 x) == j + 1) n
    refine pb_ext hn fun i hi => ?_
    by_cases e : j = hl
    · subst e
      rw [if_pos rfl, b_and, bt_pb _ n hn i hi, b_not _ hi, b_one (by omega) hi]
      by_cases e2 : i = k
      · subst e2; simp
      · simp [e2]
    · rw [if_neg e, bt_pb _ n hn i hi]
      by_cases e2 : i = k
      · subst e2
        have : ¬ hl = j := fun z => e z.symm
        simp [h, this]
      · simp [e2]
theorem vHand_T {n : Nat} {T : TT} {hl ho k : Nat} (hn : n ≤ 32) (hk : k < n) (h : T.1 k = hl + 1) : vHand (tvOf n T) hl ho (nI k) = tvOf n (tLay T k (ho + 1)) := by
  unfold vHand tvOf tLay
  refine Prod.ext ?_ (Prod.ext ?_ rfl)
  · refine pb_ext hn fun i hi => ?_
    show bt (pb _ n) i = _
    rw [bt_pb _ n hn i hi]
    by_cases e : i = k
    · subst e; simp [h]
    · simp [e]
  · funext j
    show (if j = ho then (if ho = hl then pb (fun x => T.1 x == j + 1) n &&& _ else pb (fun x => T.1 x == j + 1) n) ||| _ else if j = hl then pb (fun x => T.1 x == j + 1) n &&& _ else pb (fun x => T.1 x == j + 1) n) = pb (fun x => (if x = k then ho + 1 else T.1 x) == j + 1) n
    refine pb_ext hn fun i hi => ?_
    by_cases e : j = ho
    · subst e
      rw [if_pos rfl, b_or, b_one (by omega) hi]
      by_cases e2 : i = k
      · subst e2; simp [hk]
      · split
        · rw [b_and, bt_pb _ n hn i hi, b_not _ hi, b_one (by omega) hi]; simp [e2]
        · rw [bt_pb _ n hn i hi]; simp [e2]
    · rw [if_neg e]
      by_cases e1 : j = hl
      · subst e1
        rw [if_pos rfl, b_and, bt_pb _ n hn i hi, b_not _ hi, b_one (by omega) hi]
        by_cases e2 : i = k
        · subst e2
          have : ¬ ho = j := fun z => e z.symm
          simp [this]
        · simp [e2]
      · rw [if_neg e1, bt_pb _ n hn i hi]
        by_cases e2 : i = k
        · subst e2
          have h3 : (ho == j) = false := beq_eq_false_iff_ne.mpr fun z => e z.symm
          have h4 : (hl == j) = false := beq_eq_false_iff_ne.mpr fun z => e1 z.symm
          simp [h, h3, h4]
        · simp [e2]
theorem vNext_T {n h : Nat} {T : TT} (h6 : h ≤ 6) (hx : T.2.2.1 < h) : vNext (tvOf n T) h = tvOf n (tGo T h) := by
  obtain ⟨l, u, x, t⟩ := T
  have hx : x < h := hx
  cases u
  · show (if nI x + 1 < nI h then (tp (tvOf n (l, false, x, t)), td (tvOf n (l, false, x, t)), false, nI x + 1, t) else (tp (tvOf n (l, false, x, t)), td (tvOf n (l, false, x, t)), false, 0, t + 1)) = tvOf n (if x + 1 < h then (l, false, x + 1, t) else (l, false, 0, t + 1))
    have e : nI x + 1 < nI h ↔ x + 1 < h := by rw [nI_1]; exact nI_ltI (by omega) (by omega)
    by_cases r : x + 1 < h
    · rw [if_pos (e.mpr r), if_pos r, nI_1]; rfl
    · rw [if_neg (fun z => r (e.mp z)), if_neg r]; rfl
  · show (if nI h - 1 - nI x + 1 < nI h then (tp (tvOf n (l, true, x, t)), td (tvOf n (l, true, x, t)), true, nI h - 1 - (nI h - 1 - nI x + 1), t) else (tp (tvOf n (l, true, x, t)), td (tvOf n (l, true, x, t)), true, nI h - 1 - 0, t + 1)) = tvOf n (if h - 1 - x + 1 < h then (l, true, h - 1 - (h - 1 - x + 1), t) else (l, true, h - 1, t + 1))
    have e1 : nI h - 1 - nI x + 1 = nI (h - 1 - x + 1) := by rw [show (1 : Int32) = nI 1 from rfl, pk_sub (by omega), pk_sub (by omega), nI_add]
    have e2 : nI h - 1 = nI (h - 1) := by rw [show (1 : Int32) = nI 1 from rfl, pk_sub (by omega)]
    rw [e1, e2, Int32.sub_zero]
    by_cases r : h - 1 - x + 1 < h
    · rw [if_pos ((nI_ltI (by omega) (by omega)).mpr r), if_pos r, pk_sub (by omega)]; rfl
    · rw [if_neg (fun z => r ((nI_ltI (by omega) (by omega)).mp z)), if_neg r]; rfl
theorem tHas_T {n hl k : Nat} {T : TT} (hn : n ≤ 32) (hk : k < n) (h6 : hl < 6) : tHas (td (tvOf n T)) (nI hl) (nI k) = decide (T.1 k = hl + 1) := by
  unfold tHas
  rw [show (6 : Int32) = nI 6 from rfl, sIn_nI (by omega) (by omega), decide_eq_true h6, Bool.true_and, nI_clamp (by omega)]
  show decide (((pb (fun j => T.1 j == hl + 1) n >>> (nI k &&& 31)) &&& 1) = 1) = _
  by_cases q : T.1 k = hl + 1
  · rw [decide_eq_true q, decide_eq_true]
    rw [bit_t _ (by omega), bt_pb _ n hn k (by omega)]
    simp [q, hk]
  · rw [decide_eq_false q, decide_eq_false]
    rw [bit_f _ (by omega), bt_pb _ n hn k (by omega)]
    simp [q]
theorem tHold_T {n k : Nat} {T : TT} (hn : n ≤ 32) (hk : k < n) (h7 : T.1 k ≤ 6) : tHold (td (tvOf n T)) (nI k) 6 0 = if T.1 k = 0 then -1 else nI (T.1 k - 1) := by
  have key : ∀ j i, i + j = 6 → i < T.1 k ∨ T.1 k = 0 → tHold (td (tvOf n T)) (nI k) j i = if T.1 k = 0 then -1 else nI (T.1 k - 1) := by
    intro j
    induction j with
    | zero =>
      intro i hi h
      rw [tHold, if_pos (by omega)]
    | succ j ih =>
      intro i hi h
      rw [tHold, tHas_T hn hk (by omega)]
      by_cases q : T.1 k = i + 1
      · rw [decide_eq_true q, if_pos rfl, if_neg (by omega), q]; rfl
      · rw [decide_eq_false q, if_neg (by simp), ih (i + 1) (by omega) (by omega)]
  exact key 6 0 rfl (by omega)
theorem dOr_bt (f : Nat → Int32) (i : Nat) : ∀ n, bt (dOr f n) i = true ↔ ∃ h, h < n ∧ bt (f h) i = true
  | 0 => by rw [dOr, b_0]; simp
  | n + 1 => by
    rw [dOr, b_or, Bool.or_eq_true, dOr_bt f i n]
    constructor
    · rintro (⟨h, h1, h2⟩ | h)
      · exact ⟨h, by omega, h2⟩
      · exact ⟨n, by omega, h⟩
    · rintro ⟨h, h1, h2⟩
      by_cases e : h = n
      · subst e; exact .inr h2
      · exact .inl ⟨h, by omega, h2⟩
theorem dOr_T {n : Nat} {T : TT} (hn : n ≤ 32) (h : ∀ k, k < n → T.1 k ≤ 6) : dOr (td (tvOf n T)) 6 = pb (fun k => !(T.1 k == 0)) n := by
  refine pb_ext hn fun i hi => ?_
  rw [Bool.eq_iff_iff, dOr_bt]
  constructor
  · rintro ⟨k, h1, h2⟩
    have h2 : bt (pb (fun j => T.1 j == k + 1) n) i = true := h2
    rw [bt_pb _ n hn i hi] at h2
    simp only [Bool.and_eq_true, decide_eq_true_eq, beq_iff_eq] at h2
    simp [h2.1, h2.2]
  · intro q
    simp only [Bool.and_eq_true, decide_eq_true_eq, Bool.not_eq_true', beq_eq_false_iff_ne] at q
    have := h i q.1
    refine ⟨T.1 i - 1, by omega, ?_⟩
    show bt (pb (fun j => T.1 j == (T.1 i - 1) + 1) n) i = true
    rw [bt_pb _ n hn i hi]
    have : T.1 i = T.1 i - 1 + 1 := by omega
    simp [q.1, ← this]
/-! what is taken out is a part of the row -/
def sub (x y : Int32) : Prop := ∀ i, i < 32 → bt x i = true → bt y i = true
theorem sub.or {x y z : Int32} (h : sub x z) (h2 : sub y z) : sub (x ||| y) z := fun i hi q => by
  rw [b_or, Bool.or_eq_true] at q
  rcases q with q | q
  · exact h i hi q
  · exact h2 i hi q
theorem sub.and {x z : Int32} (y : Int32) (h : sub x z) : sub (x &&& y) z := fun i hi q => by
  rw [b_and, Bool.and_eq_true] at q
  exact h i hi q.1
theorem sub.zero {z : Int32} : sub 0 z := fun i _ q => by rw [b_0] at q; exact absurd q (by decide)
theorem sub.one {k : Nat} {z : Int32} (hk : k < 32) (h : bt z k = true) : sub ((1 : Int32) <<< (nI k &&& 31)) z := fun i hi q => by
  rw [b_one hk hi] at q
  have : i = k := of_decide_eq_true q
  rw [this]; exact h
theorem sHat_sub (srt vd : Nat → Int32) (hl : Nat) (row : Int32) : ∀ k, k ≤ 32 → sub (sHat srt vd hl row k).1 row
  | 0, _ => sub.zero
  | k + 1, hk => by
    have ih := sHat_sub srt vd hl row k (by omega)
    unfold sHat
    split
    · rename_i q
      show sub (if _ then _ else _) row
      split
      · exact ih.or (sub.one (by omega) q)
      · exact ih
    · exact ih
theorem sBeh_sub (set row : Int32) : ∀ k, k ≤ 32 → sub (sBeh set row k).1 row
  | 0, _ => sub.zero
  | k + 1, hk => by
    have ih := sBeh_sub set row k (by omega)
    unfold sBeh
    split
    · rename_i q
      show sub (if _ then _ else _) row
      split
      · exact ih.or (sub.one (by omega) q)
      · exact ih
    · exact ih
theorem cTk_sub {c : CD} {hl : Nat} {row : Int32} (h10 : cn c ≤ 10) : sub (cTk c hl row) row := by
  have h1 := sHat_sub (csrt c) (cvd c) hl row (cn c) (by omega)
  unfold cTk sTk
  split
  · exact h1.and _
  · split
    · exact h1.or (sBeh_sub _ _ _ (by omega))
    · split
      · exact h1.and _
      · exact h1
theorem cTk_in {c : CD} {hl : Nat} {T : TT} (h10 : cn c ≤ 10) : inPr (cn c) T (cTk c hl (tp (tvOf (cn c) T))) := fun i hi q => by
  have h1 : bt (pb (fun k => T.1 k == 0) (cn c)) i = true := cTk_sub h10 i hi q
  rw [bt_pb _ _ (by omega) i hi] at h1
  simp only [Bool.and_eq_true, decide_eq_true_eq, beq_iff_eq] at h1
  exact h1
/-- the print is shown in hall hl -/
def cutT (c : CD) (T : TT) (hl : Nat) : TT := tShow T hl (cTk c hl (tp (tvOf (cn c) T)))
theorem vShow_c {c : CD} {T : TT} {hl : Nat} (h10 : cn c ≤ 10) : vShow (tvOf (cn c) T) hl (cTk c hl (tp (tvOf (cn c) T))) = tvOf (cn c) (cutT c T hl) := vShow_T (by omega) (cTk_in h10)
def shT (c : CD) (T : TT) : TT := tGo (cutT c T T.2.2.1) (ch c)
theorem vSh_T {c : CD} {T : TT} (h10 : cn c ≤ 10) (h6 : ch c ≤ 6) (hx : T.2.2.1 < ch c) : vSh c (tvOf (cn c) T) = tvOf (cn c) (shT c T) := by
  unfold vSh cNow shT
  have e : tNx (tvOf (cn c) T) = T.2.2.1 := by
    unfold tNx
    show (nI T.2.2.1).toNatClampNeg = _
    rw [nI_clamp (by omega)]
  rw [e, vShow_c h10, vNext_T h6]
  exact hx
theorem TOk.cut {c : CD} {T : TT} {hl : Nat} (h : TOk c T) (h1 : hl < ch c) : TOk c (cutT c T hl) := by
  refine ⟨fun k hk => ?_, h.2⟩
  have := h.1 k hk
  show (if bt (cTk c hl (tp (tvOf (cn c) T))) k = true then hl + 1 else T.1 k) ≤ ch c
  split <;> omega
theorem TOk.lay {c : CD} {T : TT} {k x : Nat} (h : TOk c T) (h1 : x ≤ ch c) : TOk c (tLay T k x) := by
  refine ⟨fun j hj => ?_, h.2⟩
  have := h.1 j hj
  show (if j = k then x else T.1 j) ≤ ch c
  split <;> omega
theorem TOk.turn {c : CD} {T : TT} (h : TOk c T) : TOk c (tTurn T) := h
theorem TOk.go {c : CD} {T : TT} (h : TOk c T) (h0 : ch c ≠ 0) : TOk c (tGo T (ch c)) := by
  have h2 := h.2
  rw [if_neg h0] at h2
  obtain ⟨l, u, x, t⟩ := T
  have h1 : ∀ k, k < cn c → l k ≤ ch c := h.1
  have h2 : x < ch c := h2
  have key : ∀ u y t, y < ch c → TOk c (l, u, y, t) := fun u y t hy => ⟨h1, by rw [if_neg h0]; exact hy⟩
  cases u
  · show TOk c (if x + 1 < ch c then (l, false, x + 1, t) else (l, false, 0, t + 1))
    split
    · exact key _ _ _ (by omega)
    · exact key _ _ _ (by omega)
  · show TOk c (if ch c - 1 - x + 1 < ch c then (l, true, ch c - 1 - (ch c - 1 - x + 1), t) else (l, true, ch c - 1, t + 1))
    split
    · exact key _ _ _ (by omega)
    · exact key _ _ _ (by omega)
theorem TOk.sh {c : CD} {T : TT} (h : TOk c T) (h0 : ch c ≠ 0) : TOk c (shT c T) := by
  have h2 := h.2
  rw [if_neg h0] at h2
  exact TOk.go (h.cut h2) h0
