/-! ===== tools of the contracts ===== -/
theorem R0.of {g : GG} {Y : YY} {d : Nat} {av : List Value} {lv : List (Nat × Value)} {M : MM} {P : Option Value → MM → Prop} (hY : plainName (yN Y).cls = true) (hl : (lg_sl av).length ≤ yL Y) (hlv : lv_args 0 av = lv) (h : E0 g Y d 0 lv [] M P) : R0 g Y d av M P := by
  subst hlv
  exact EX.entry hY hl h
/-- answers alone: nothing is changed -/
abbrev Ans (v : Int32) (M : MM) : Option Value → MM → Prop := fun rv M1 => rv = some (.int v) ∧ M1 = M
/-- a call whose answer is known -/
theorem K0.ans {g : GG} {Y Z : YY} {d d1 pc : Nat} {av : List Value} {lv : List (Nat × Value)} {st : List Value} {M : MM} {P : Option Value → MM → Prop} {v : Int32} (hd : d1 + 1 ≤ d) (h : R0 g Z d1 av M (Ans v M)) (k : E0 g Y d pc lv (.int v :: st) M P) : K0 g Y Z d pc av lv st M P :=
  ⟨d1, _, hd, h, fun rv M1 q => by obtain ⟨rfl, rfl⟩ := q; exact k⟩
/-- a call that answers and changes -/
theorem K0.set {g : GG} {Y Z : YY} {d d1 pc : Nat} {av : List Value} {lv : List (Nat × Value)} {st : List Value} {M : MM} {P P1 : Option Value → MM → Prop} (hd : d1 + 1 ≤ d) (h : R0 g Z d1 av M P1) (k : ∀ rv M1, P1 rv M1 → E0 g Y d pc lv (rv.toList ++ st) M1 P) : K0 g Y Z d pc av lv st M P := ⟨d1, _, hd, h, k⟩
theorem up {p : Nat → Prop} (n : Nat) (hn : p n) (hs : ∀ i, i < n → p (i + 1) → p i) : ∀ i, i ≤ n → p i := by
  intro i hi
  obtain ⟨j, rfl⟩ : ∃ j, n = i + j := ⟨n - i, by omega⟩
  clear hi
  induction j generalizing i with
  | zero => exact hn
  | succ j ih => exact hs i (by omega) (ih (i + 1) (by rw [show i + 1 + j = i + (j + 1) by omega]; exact hn) (fun k hk hq => hs k (by omega) hq))
theorem up0 {p : Nat → Prop} (n : Nat) (hn : p n) (hs : ∀ i, i < n → p (i + 1) → p i) : p 0 := up n hn hs 0 (Nat.zero_le _)
def b2i (b : Bool) : Int32 := if b then 1 else 0
theorem b2i_t : b2i true = 1 := rfl
theorem b2i_f : b2i false = 0 := rfl
theorem b2i_z {b : Bool} : b2i b = 0 ↔ b = false := by cases b <;> decide
theorem b2i_n {b : Bool} : ¬ b2i b = 0 ↔ b = true := by cases b <;> decide
theorem b2i_1 (b : Bool) : b2i b &&& 1 = b2i b := by cases b <;> decide
theorem b2i_inj {a b : Bool} : b2i a = b2i b ↔ a = b := by cases a <;> cases b <;> decide
theorem lg_eq {x y : Int64} : lg_cmp x y = 0 ↔ x = y := by
  unfold lg_cmp
  by_cases h : x > y
  · rw [if_pos h]
    constructor
    · intro q; exact absurd q (by decide)
    · intro q; subst q; exact (Int64.lt_irrefl h).elim
  · rw [if_neg h]
    by_cases e : x = y
    · simp [e]
    · rw [if_neg e]; constructor
      · intro q; exact absurd q (by decide)
      · intro q; exact absurd q e
/-- i is one of the first m numbers -/
def sIn (i m : Int32) : Bool := decide (¬ i < 0) && decide (¬ m ≤ i)
theorem sIn_nI {i n : Nat} (hi : i < 2 ^ 31) (hn : n < 2 ^ 31) : sIn (nI i) (nI n) = decide (i < n) := by
  unfold sIn
  have h1 : ¬ nI i < 0 := nI_pos hi
  have h2 := nI_leI hn hi
  simp [h1, h2]
theorem sIn_of {i : Int32} {n : Nat} (hn : n < 2 ^ 31) (h : sIn i (nI n) = true) : ∃ k, k < n ∧ i = nI k := by
  unfold sIn at h
  simp only [Bool.and_eq_true, decide_eq_true_eq] at h
  obtain ⟨k, hk, rfl⟩ := nI_of h.1
  have h2 := nI_leI hn hk
  have h3 := h.2
  rw [h2] at h3
  exact ⟨k, by omega, rfl⟩
