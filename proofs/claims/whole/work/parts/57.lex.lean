/-! ===== the tape and its tokens ===== -/
def isLc (x : Nat) : Bool := decide (97 ≤ x) && decide (x ≤ 122)
def isDc (x : Nat) : Bool := decide (48 ≤ x) && decide (x ≤ 57)
def isBlc (x : Nat) : Bool := decide (x = 10) || decide (x = 32)
def isSgc (x : Nat) : Bool := (decide (40 ≤ x) && decide (x ≤ 43)) || decide (x = 45) || (decide (59 ≤ x) && decide (x ≤ 61))
def skipB (t : Nat → Nat) : Nat → Nat → Nat
  | 0, p => p
  | j + 1, p => if isBlc (t p) then skipB t j (p + 1) else p
def runW (f : Nat → Bool) (t : Nat → Nat) : Nat → Nat → Nat
  | 0, p => p
  | j + 1, p => if f (t p) then runW f t j (p + 1) else p
/-- a word's letters, the last one first -/
def ltR (t : Nat → Nat) (a : Nat) : Nat → List Nat
  | 0 => []
  | k + 1 => (t (a + k) - 96) :: ltR t a k
def hRx (B : Nat) : List Nat → Nat
  | [] => 0
  | x :: l => hRx B l * B + x
def nuR (t : Nat → Nat) (a : Nat) : Nat → Nat
  | 0 => 0
  | k + 1 => nuR t a k * 10 + (t (a + k) - 48)
/-- a token: its type, where it begins and ends, its letters, its number, its sign -/
abbrev TK : Type := Nat × Nat × Nat × List Nat × Nat × Nat
abbrev kty (K : TK) : Nat := K.1
abbrev kat (K : TK) : Nat := K.2.1
abbrev ken (K : TK) : Nat := K.2.2.1
abbrev kws (K : TK) : List Nat := K.2.2.2.1
abbrev knu (K : TK) : Nat := K.2.2.2.2.1
abbrev ksg (K : TK) : Nat := K.2.2.2.2.2
def lexA (n : Nat) (t : Nat → Nat) (a : Nat) : TK :=
  if a < n then
    (if isLc (t a) then ((if 8 < runW isLc t (n - a) a - a then 4 else 1), a, runW isLc t (n - a) a, ltR t a (runW isLc t (n - a) a - a), 0, 0)
    else if isDc (t a) then ((if 4 < runW isDc t (n - a) a - a then 4 else 2), a, runW isDc t (n - a) a, [], nuR t a (runW isDc t (n - a) a - a), 0)
    else ((if isSgc (t a) then 3 else 4), a, a + 1, [], 0, t a))
  else (0, a, a, [], 0, 0)
def lexT (n : Nat) (t : Nat → Nat) (p : Nat) : TK := lexA n t (skipB t (n - p) p)
theorem skipB_le (t : Nat → Nat) : ∀ j p, p ≤ skipB t j p ∧ skipB t j p ≤ p + j
  | 0, p => ⟨Nat.le_refl _, Nat.le_refl _⟩
  | j + 1, p => by
    have := skipB_le t j (p + 1)
    unfold skipB
    split <;> omega
theorem runW_le (f : Nat → Bool) (t : Nat → Nat) : ∀ j p, p ≤ runW f t j p ∧ runW f t j p ≤ p + j
  | 0, p => ⟨Nat.le_refl _, Nat.le_refl _⟩
  | j + 1, p => by
    have := runW_le f t j (p + 1)
    unfold runW
    split <;> omega
theorem lexA_at {n : Nat} {t : Nat → Nat} {a : Nat} : kat (lexA n t a) = a := by
  unfold lexA
  split
  · split
    · rfl
    · split <;> rfl
  · rfl
theorem lexA_en {n : Nat} {t : Nat → Nat} {a : Nat} (h : a ≤ n) : a ≤ ken (lexA n t a) ∧ ken (lexA n t a) ≤ n ∧ (a < n → a < ken (lexA n t a)) := by
  unfold lexA
  by_cases q : a < n
  · rw [if_pos q]
    have e : n - a = (n - a - 1) + 1 := by omega
    by_cases q1 : isLc (t a) = true
    · rw [if_pos q1]
      show a ≤ runW isLc t (n - a) a ∧ runW isLc t (n - a) a ≤ n ∧ _
      rw [e, runW, if_pos q1]
      have := runW_le isLc t (n - a - 1) (a + 1)
      refine ⟨by omega, by omega, fun _ => ?_⟩
      show a < runW isLc t (n - a - 1) (a + 1)
      omega
    · rw [if_neg q1]
      by_cases q2 : isDc (t a) = true
      · rw [if_pos q2]
        show a ≤ runW isDc t (n - a) a ∧ runW isDc t (n - a) a ≤ n ∧ _
        rw [e, runW, if_pos q2]
        have := runW_le isDc t (n - a - 1) (a + 1)
        refine ⟨by omega, by omega, fun _ => ?_⟩
        show a < runW isDc t (n - a - 1) (a + 1)
        omega
      · rw [if_neg q2]
        show a ≤ a + 1 ∧ a + 1 ≤ n ∧ (a < n → a < a + 1)
        omega
  · rw [if_neg q]
    show a ≤ a ∧ a ≤ n ∧ (a < n → a < a)
    omega
theorem lexA_ty {n : Nat} {t : Nat → Nat} {a : Nat} : kty (lexA n t a) ≤ 4 ∧ (kty (lexA n t a) = 0 ↔ n ≤ a) := by
  unfold lexA
  split
  · split
    · show (if _ then 4 else 1) ≤ 4 ∧ ((if _ then 4 else 1) = 0 ↔ _)
      split <;> omega
    · split
      · show (if _ then 4 else 2) ≤ 4 ∧ ((if _ then 4 else 2) = 0 ↔ _)
        split <;> omega
      · show (if _ then 3 else 4) ≤ 4 ∧ ((if _ then 3 else 4) = 0 ↔ _)
        split <;> omega
  · show (0 : Nat) ≤ 4 ∧ ((0 : Nat) = 0 ↔ _)
    omega
/-! words -/
def kwT : List (List Nat) := [[20, 15, 8, 19], [20, 18, 15, 19], [7, 14, 15, 12], [19, 4, 5, 5, 14], [12, 12, 1, 8], [19, 5, 20, 1, 8], [23, 15, 8, 19], [5, 22, 9, 7], [5, 4, 1, 18, 20], [14, 18, 21, 20], [14, 9, 1, 12, 16], [14, 5, 5, 11], [12, 5, 16, 1, 8, 3], [18, 5, 14, 9, 13], [20, 15, 14], [4, 14, 1], [18, 15], [4, 14, 9, 11], [19, 5, 20, 21, 14, 9, 13], [5, 3, 1, 12, 16], [4, 1, 5, 8, 1]]
def kwL (i : Nat) : List Nat := kwT.getD i []
def WOk (l : List Nat) : Prop := l.length ≤ 8 ∧ ∀ x ∈ l, 1 ≤ x ∧ x ≤ 26
theorem hRx_lt {B : Nat} (hB : 27 ≤ B) : ∀ {l : List Nat}, (∀ x ∈ l, 1 ≤ x ∧ x ≤ 26) → hRx B l < B ^ l.length
  | [], _ => by rw [hRx]; exact Nat.one_pos
  | x :: l, h => by
    have ih := hRx_lt hB (l := l) (fun y hy => h y (List.mem_cons_of_mem _ hy))
    have hx := h x (List.mem_cons_self ..)
    rw [hRx, List.length_cons, Nat.pow_succ]
    have h1 : (hRx B l + 1) * B ≤ B ^ l.length * B := Nat.mul_le_mul_right _ ih
    rw [Nat.add_mul] at h1
    omega
theorem hRx_inj {B : Nat} (hB : 27 ≤ B) : ∀ {l l2 : List Nat}, (∀ x ∈ l, 1 ≤ x ∧ x ≤ 26) → (∀ x ∈ l2, 1 ≤ x ∧ x ≤ 26) → hRx B l = hRx B l2 → l = l2
  | [], [], _, _, _ => rfl
  | [], y :: l2, _, h2, e => by
    have := h2 y (List.mem_cons_self ..)
    rw [hRx, hRx] at e
    omega
  | x :: l, [], h, _, e => by
    have := h x (List.mem_cons_self ..)
    rw [hRx, hRx] at e
    omega
  | x :: l, y :: l2, h, h2, e => by
    have hx := h x (List.mem_cons_self ..)
    have hy := h2 y (List.mem_cons_self ..)
    rw [hRx, hRx] at e
    have e1 : x = y := by
      have e := congrArg (fun z => z % B) e
      simp only [Nat.mul_add_mod_self_right] at e
      rwa [Nat.mod_eq_of_lt (by omega), Nat.mod_eq_of_lt (by omega)] at e
    subst e1
    have e2 : hRx B l * B = hRx B l2 * B := by omega
    have e3 := Nat.eq_of_mul_eq_mul_right (by omega) e2
    rw [hRx_inj hB (fun z hz => h z (List.mem_cons_of_mem _ hz)) (fun z hz => h2 z (List.mem_cons_of_mem _ hz)) e3]
theorem lJ_inj {a b : Nat} (ha : a < 2 ^ 63) (hb : b < 2 ^ 63) : lJ a = lJ b ↔ a = b := by
  constructor
  · intro h
    have h := congrArg Int64.toInt h
    rw [lJ_toInt ha, lJ_toInt hb] at h
    omega
  · intro h; rw [h]
theorem WOk.lt {l : List Nat} (h : WOk l) {B : Nat} (hB : 27 ≤ B) (h2 : B ≤ 32) : hRx B l < 2 ^ 63 := by
  refine Nat.lt_of_lt_of_le (hRx_lt hB h.2) ?_
  exact Nat.le_trans (Nat.pow_le_pow_right (by omega) h.1) (Nat.le_trans (Nat.pow_le_pow_left h2 8) (by decide))
/-- two words are alike if their numbers are -/
theorem word_eq {l l2 : List Nat} (h : WOk l) (h2 : WOk l2) {B : Nat} (hB : 27 ≤ B) (hB2 : B ≤ 32) : lJ (hRx B l) = lJ (hRx B l2) ↔ l = l2 := by
  rw [lJ_inj (h.lt hB hB2) (h2.lt hB hB2)]
  exact ⟨hRx_inj hB h.2 h2.2, fun e => by rw [e]⟩
theorem kw_ok : ∀ i, i < 21 → (kwL i).length ≤ 8 ∧ ∀ x ∈ kwL i, 1 ≤ x ∧ x ≤ 26 := by decide +kernel
theorem ltR_len (t : Nat → Nat) (a : Nat) : ∀ k, (ltR t a k).length = k
  | 0 => rfl
  | k + 1 => by rw [ltR, List.length_cons, ltR_len t a k]
theorem runW_all (f : Nat → Bool) (t : Nat → Nat) : ∀ j p x, p ≤ x → x < runW f t j p → f (t x) = true
  | 0, p, x, h1, h2 => absurd h2 (by rw [runW]; omega)
  | j + 1, p, x, h1, h2 => by
    unfold runW at h2
    split at h2
    · by_cases e : x = p
      · subst e; assumption
      · exact runW_all f t j (p + 1) x (by omega) h2
    · omega
theorem ltR_ok {t : Nat → Nat} {a : Nat} : ∀ {k}, (∀ i, i < k → isLc (t (a + i)) = true) → ∀ x ∈ ltR t a k, 1 ≤ x ∧ x ≤ 26
  | 0, _, x, hx => absurd hx (by simp [ltR])
  | k + 1, h, x, hx => by
    rw [ltR, List.mem_cons] at hx
    rcases hx with rfl | hx
    · have := h k (by omega)
      unfold isLc at this
      simp only [Bool.and_eq_true, decide_eq_true_eq] at this
      omega
    · exact ltR_ok (fun i hi => h i (by omega)) x hx
theorem lexA_w {n : Nat} {t : Nat → Nat} {a : Nat} (h : kty (lexA n t a) = 1) : WOk (kws (lexA n t a)) := by
  unfold lexA at h ⊢
  by_cases q : a < n
  · rw [if_pos q] at h ⊢
    by_cases q1 : isLc (t a) = true
    · rw [if_pos q1] at h ⊢
      have h : (if 8 < runW isLc t (n - a) a - a then 4 else 1) = 1 := h
      have h8 : ¬ 8 < runW isLc t (n - a) a - a := fun z => by rw [if_pos z] at h; omega
      show WOk (ltR t a (runW isLc t (n - a) a - a))
      refine ⟨by rw [ltR_len]; omega, ltR_ok fun i hi => runW_all isLc t (n - a) a _ (by omega) (by omega)⟩
    · rw [if_neg q1] at h
      by_cases q2 : isDc (t a) = true
      · rw [if_pos q2] at h
        have h : (if 4 < runW isDc t (n - a) a - a then 4 else 2) = 1 := h
        split at h <;> omega
      · rw [if_neg q2] at h
        have h : (if isSgc (t a) = true then 3 else 4) = 1 := h
        split at h <;> omega
  · rw [if_neg q] at h
    have h : (0 : Nat) = 1 := h
    omega
/-- the number of a word in the language -/
def kwX (l : List Nat) : Nat → Nat → Int32
  | 0, _ => -1
  | j + 1, i => if kwL i = l then nI i else kwX l j (i + 1)
def kkw (K : TK) : Int32 := if kty K = 1 then kwX (kws K) 21 0 else -1
def WdOk (M : MM) : Prop := ∀ i, i < 21 → mj M 26 i = lJ (hRx 32 (kwL i))
def TapeIs (M : MM) (n : Nat) (t : Nat → Nat) : Prop := n ≤ 1000 ∧ mi M 25 2 = nI n ∧ ∀ k, k < n → mi M 27 k = nI (t k) ∧ t k < 127
def TkC (M : MM) (K : TK) : Prop := mi M 25 3 = nI (kat K) ∧ mi M 25 4 = nI (ken K) ∧ mi M 25 5 = nI (kty K) ∧ mi M 25 7 = kkw K ∧ (kty K = 1 → mj M 25 6 = lJ (hRx 32 (kws K))) ∧ (kty K = 2 → mi M 25 8 = nI (knu K)) ∧ (kty K = 3 → mi M 25 9 = nI (ksg K))
abbrev in25 : Nat → Prop := fun b => b = 25
theorem TapeIs.fr {S : Nat → Prop} {M M1 : MM} {n : Nat} {t : Nat → Nat} (h : TapeIs M n t) (F : Fr S M M1) (h1 : ¬ S 25) (h2 : ¬ S 27) : TapeIs M1 n t := by
  unfold TapeIs at h ⊢
  rw [F.i h1, F.i h2]; exact h
theorem TkC.fr {S : Nat → Prop} {M M1 : MM} {K : TK} (h : TkC M K) (F : Fr S M M1) (h1 : ¬ S 25) : TkC M1 K := by
  unfold TkC at h ⊢
  rw [F.i h1, F.j h1]; exact h
section TX9
variable {g : GG} {d : Nat} {M : MM} {la lb pa pb0 rl n : Nat} {t : Nat → Nat}
theorem tX9_isLetter {x : Nat} (hx : x < 2 ^ 31) : R0 g YX9_isLetter d [.int (nI x)] M (Ans (b2i (isLc x)) M) := by
  refine R0.of (by decide +kernel) (Nat.le_of_ble_eq_true rfl) rfl (qX9_isLetter_0 (fun r => ?_) (fun r1 r2 => ?_) (fun r1 r2 => ?_))
  · rw [show (97 : Int32) = nI 97 from rfl, nI_ltI hx (by decide)] at r
    have : ¬ 97 ≤ x := by omega
    simp [Ans, isLc, this, b2i]
  · rw [show (122 : Int32) = nI 122 from rfl, nI_ltI (by decide) hx] at r2
    have : ¬ x ≤ 122 := by omega
    simp [Ans, isLc, this, b2i]
  · rw [show (97 : Int32) = nI 97 from rfl, nI_ltI hx (by decide)] at r1
    rw [show (122 : Int32) = nI 122 from rfl, nI_ltI (by decide) hx] at r2
    have h1 : 97 ≤ x := by omega
    have h2 : x ≤ 122 := by omega
    simp [Ans, isLc, h1, h2, b2i]
theorem tX9_isDigit {x : Nat} (hx : x < 2 ^ 31) : R0 g YX9_isDigit d [.int (nI x)] M (Ans (b2i (isDc x)) M) := by
  refine R0.of (by decide +kernel) (Nat.le_of_ble_eq_true rfl) rfl (qX9_isDigit_0 (fun r => ?_) (fun r1 r2 => ?_) (fun r1 r2 => ?_))
  · rw [show (48 : Int32) = nI 48 from rfl, nI_ltI hx (by decide)] at r
    have : ¬ 48 ≤ x := by omega
    simp [Ans, isDc, this, b2i]
  · rw [show (57 : Int32) = nI 57 from rfl, nI_ltI (by decide) hx] at r2
    have : ¬ x ≤ 57 := by omega
    simp [Ans, isDc, this, b2i]
  · rw [show (48 : Int32) = nI 48 from rfl, nI_ltI hx (by decide)] at r1
    rw [show (57 : Int32) = nI 57 from rfl, nI_ltI (by decide) hx] at r2
    have h1 : 48 ≤ x := by omega
    have h2 : x ≤ 57 := by omega
    simp [Ans, isDc, h1, h2, b2i]
theorem lJ_step {x c : Nat} (hc : 97 ≤ c) : lJ x * 32 + ((nI c - 97) + 1).toInt64 = lJ (x * 32 + (c - 96)) ∨ 2 ^ 31 ≤ c := by
  rcases Nat.lt_or_ge c (2 ^ 31) with h | h
  · left
    rw [show (97 : Int32) = nI 97 from rfl, pk_sub hc, nI_1, show c - 97 + 1 = c - 96 by omega, lJ_of (by omega)]
    unfold lJ
    rw [Int64.ofNat_add, Int64.ofNat_mul]
    rfl
  · exact .inr h
/-- the look for a word of the language -/
theorem tX9_kw {l : List Nat} (L : Lay M la lb pa pb0 rl) (W : WdOk M) (hl : WOk l) (h6 : mj M 25 6 = lJ (hRx 32 l)) (h5 : mi M 25 5 = 1) (h7 : mi M 25 7 = -1) {P : Option Value → MM → Prop} (k : ∀ M1, mi M1 25 7 = kwX l 21 0 → (∀ j, j ≠ 7 → mi M1 25 j = mi M 25 j) → mj M1 25 = mj M 25 → Fr in25 M M1 → P none M1) : E0 g YX9_takeWord d 97 [(0, .ref 25), (1, .int 0)] [] M P := by
  refine up0 (p := fun i => kwX l 21 0 = kwX l (21 - i) i → E0 g YX9_takeWord d 97 [(0, .ref 25), (1, .int (nI i))] [] M P) 21 (fun e => ?_) (fun i hi ih e => ?_) rfl
  · refine qX9_takeWord_97 L rfl (fun r => absurd (by decide) r) (fun _ => k M (by rw [h7, e]; rfl) (fun _ _ => rfl) rfl Fr.rf) (fun r => absurd (by decide) r) (fun r => absurd (by decide) r) (fun r => absurd (by decide) r) (fun r => absurd (by decide) r)
  · have hn : ¬ (21 : Int32) ≤ nI i := ngl 21 rfl (by decide) hi
    have e2 : 21 - i = (21 - (i + 1)) + 1 := by omega
    rw [e2] at e
    have e : kwX l 21 0 = if kwL i = l then nI i else kwX l (21 - (i + 1)) (i + 1) := e
    refine qX9_takeWord_97 L rfl (fun _ _ _ => vi hi (by decide)) (fun r => absurd r hn) (fun _ r => absurd h5 r) (fun _ _ r => absurd h7 r) (fun _ _ _ r => ?_) (fun _ _ _ r => ?_)
    · rw [lg_eq, nI_clamp (by omega), W i hi, h6, word_eq (kw_ok i hi) hl (by decide) (by decide)] at r
      rw [if_neg r] at e
      rw [nI_1]
      exact ih e
    · rw [lg_eq, nI_clamp (by omega), W i hi, h6, word_eq (kw_ok i hi) hl (by decide) (by decide)] at r
      rw [if_pos r] at e
      rw [nI_1]
      have F1 : Fr in25 M (wi M 25 7 (nI i)) := Fr.rf.wi rfl
      have e7 : mi (wi M 25 7 (nI i)) 25 7 = nI i := by rw [wi_at, if_pos ⟨rfl, rfl⟩]
      have hP : P none (wi M 25 7 (nI i)) := k _ (by rw [e7, e]) (fun j hj => by rw [wi_at, if_neg (fun z => hj z.2)]) rfl F1
      refine qX9_takeWord_97 (F1.lay L) rfl (fun _ _ r3 => ?_) (fun _ => hP) (fun _ _ => hP) (fun _ _ _ => hP) (fun _ _ r3 => ?_) (fun _ _ r3 => ?_) <;> exact absurd (e7.symm.trans r3) (nI_m1 (by omega))
theorem tX9_takeWord {a : Nat} (L : Lay M la lb pa pb0 rl) (W : WdOk M) (T : TapeIs M n t) (ha : a < n) (hl : isLc (t a) = true) (h3 : mi M 25 3 = nI a) (h4 : mi M 25 4 = nI a) (h7 : mi M 25 7 = -1) (hd : 1 ≤ d) : R0 g YX9_takeWord d [.ref 25] M (fun rv M1 => rv = none ∧ TkC M1 (lexA n t a) ∧ mi M1 25 2 = nI n ∧ Fr in25 M M1) := by
  have hn := T.1
  have eK : lexA n t a = ((if 8 < runW isLc t (n - a) a - a then 4 else 1), a, runW isLc t (n - a) a, ltR t a (runW isLc t (n - a) a - a), 0, 0) := by
    unfold lexA
    rw [if_pos ha, if_pos hl]
  have hrun := runW_le isLc t (n - a) a
  refine R0.of (by decide +kernel) (Nat.le_of_ble_eq_true rfl) rfl (qX9_takeWord_0 L rfl ?_)
  -- behind the letters
  have fin : ∀ M1, Fr in25 M M1 → mi M1 25 2 = nI n → mi M1 25 3 = nI a → mi M1 25 4 = nI (runW isLc t (n - a) a) → mi M1 25 7 = -1 → mj M1 25 6 = lJ (hRx 32 (ltR t a (runW isLc t (n - a) a - a))) →
      (¬ 8 < runW isLc t (n - a) a - a → E0 g YX9_takeWord d 97 [(0, .ref 25), (1, .int 0)] [] (wi M1 25 5 1) (fun rv M1 => rv = none ∧ TkC M1 (lexA n t a) ∧ mi M1 25 2 = nI n ∧ Fr in25 M M1)) ∧
      (8 < runW isLc t (n - a) a - a → E0 g YX9_takeWord d 97 [(0, .ref 25), (1, .int 0)] [] (wi M1 25 5 4) (fun rv M1 => rv = none ∧ TkC M1 (lexA n t a) ∧ mi M1 25 2 = nI n ∧ Fr in25 M M1)) := by
    intro M1 F1 g2 g3 g4 g7 g6
    refine ⟨fun h8 => ?_, fun h8 => ?_⟩
    · have F2 : Fr in25 M (wi M1 25 5 1) := F1.wi rfl
      have W2 : WdOk (wi M1 25 5 1) := fun i hi => by rw [wi_j, F1.j (by omega)]; exact W i hi
      have hlw : WOk (ltR t a (runW isLc t (n - a) a - a)) := by
        have := lexA_w (n := n) (t := t) (a := a) (by rw [eK]; show (if _ then 4 else 1) = 1; rw [if_neg h8])
        rw [eK] at this
        exact this
      refine tX9_kw (F2.lay L) W2 hlw g6 (by rw [wi_at, if_pos ⟨rfl, rfl⟩]) (by rw [wi_at, if_neg (by omega)]; exact g7) (fun M2 q7 qj qJ F3 => ?_)
      have q : ∀ j, j ≠ 7 → j ≠ 5 → mi M2 25 j = mi M1 25 j := fun j h1 h2 => by rw [qj j h1, wi_at, if_neg (fun z => h2 z.2)]
      refine ⟨rfl, ?_, by rw [q 2 (by omega) (by omega)]; exact g2, F2.trans F3⟩
      rw [eK, if_neg h8]
      refine ⟨by rw [q 3 (by omega) (by omega)]; exact g3, by rw [q 4 (by omega) (by omega)]; exact g4, ?_, q7, fun _ => ?_, fun z => absurd (show (1 : Nat) = 2 from z) (by decide), fun z => absurd (show (1 : Nat) = 3 from z) (by decide)⟩
      · rw [qj 5 (by omega), wi_at, if_pos ⟨rfl, rfl⟩]; rfl
      · rw [qJ, wi_j]; exact g6
    · have F2 : Fr in25 M (wi M1 25 5 4) := F1.wi rfl
      have q : ∀ j, j ≠ 5 → mi (wi M1 25 5 4) 25 j = mi M1 25 j := fun j h2 => by rw [wi_at, if_neg (fun z => h2 z.2)]
      have e5 : mi (wi M1 25 5 4) 25 5 = 4 := by rw [wi_at, if_pos ⟨rfl, rfl⟩]
      have hP : (none : Option Value) = none ∧ TkC (wi M1 25 5 4) (lexA n t a) ∧ mi (wi M1 25 5 4) 25 2 = nI n ∧ Fr in25 M (wi M1 25 5 4) := by
        refine ⟨rfl, ?_, by rw [q 2 (by omega)]; exact g2, F2⟩
        rw [eK, if_pos h8]
        exact ⟨by rw [q 3 (by omega)]; exact g3, by rw [q 4 (by omega)]; exact g4, e5, by rw [q 7 (by omega)]; exact g7, fun z => absurd (show (4 : Nat) = 1 from z) (by decide), fun z => absurd (show (4 : Nat) = 2 from z) (by decide), fun z => absurd (show (4 : Nat) = 3 from z) (by decide)⟩
      refine qX9_takeWord_97 (F2.lay L) rfl (fun _ r => ?_) (fun _ => hP) (fun _ _ => hP) (fun _ r => ?_) (fun _ r => ?_) (fun _ r => ?_) <;> exact absurd (e5.symm.trans r) (by decide)
  have key := up (p := fun x => a ≤ x → ∀ M1, Fr in25 M M1 → mi M1 25 2 = nI n → mi M1 25 3 = nI a → mi M1 25 4 = nI x → mi M1 25 7 = -1 → mj M1 25 6 = lJ (hRx 32 (ltR t a (x - a))) → runW isLc t (n - a) a = runW isLc t (n - x) x → E0 g YX9_takeWord d 5 [(0, .ref 25)] [] M1 (fun rv M1 => rv = none ∧ TkC M1 (lexA n t a) ∧ mi M1 25 2 = nI n ∧ Fr in25 M M1)) n (fun hx M1 F1 g2 g3 g4 g7 g6 eR => ?_) (fun x hx ih hax M1 F1 g2 g3 g4 g7 g6 eR => ?_) a (Nat.le_of_lt ha) (Nat.le_refl _)
  · refine key _ (Fr.rf.wj rfl) T.2.1 h3 h4 h7 ?_ rfl
    rw [wj_at, if_pos ⟨rfl, rfl⟩, Nat.sub_self]; rfl
  · rw [Nat.sub_self, runW] at eR
    obtain ⟨f1, f2⟩ := fin M1 F1 g2 g3 (by rw [eR]; exact g4) g7 (by rw [eR]; exact g6)
    have es : mi M1 25 4 - mi M1 25 3 = nI (n - a) := by rw [g3, g4, pk_sub (by omega)]
    have le : mi M1 25 2 ≤ mi M1 25 4 := by rw [g2, g4]; exact nI_le (Nat.le_refl _) (by omega)
    refine qX9_takeWord_5 (F1.lay L) rfl rfl (fun r => absurd le r) (fun _ r => ?_) (fun _ r => ?_) (fun r => absurd le r)
    · rw [es, show (8 : Int32) = nI 8 from rfl, nI_leI (by omega) (by decide)] at r
      exact f1 (by rw [eR]; omega)
    · rw [es, show (8 : Int32) = nI 8 from rfl, nI_leI (by omega) (by decide)] at r
      exact f2 (by rw [eR]; omega)
  · have e2 : n - x = (n - (x + 1)) + 1 := by omega
    rw [e2, runW] at eR
    have T1 := F1.i (show ¬ in25 27 by omega)
    have ht := T.2.2 x hx
    have nle : ¬ mi M1 25 2 ≤ mi M1 25 4 := by rw [g2, g4, nI_leI (by omega) (by omega)]; omega
    have ec : mi M1 27 (mi M1 25 4).toNatClampNeg = nI (t x) := by rw [g4, nI_clamp (by omega), T1, ht.1]
    have es : mi M1 25 4 - mi M1 25 3 = nI (x - a) := by rw [g3, g4, pk_sub (by omega)]
    have vin : vp_in (mi M1 25 4) 1000 := by rw [g4]; exact vi (by omega) (by decide)
    refine qX9_takeWord_5 (F1.lay L) rfl rfl (fun _ => vin) (fun r => absurd r nle) (fun r => absurd r nle) (fun _ => ?_)
    rw [ec]
    refine K0.ans (d1 := d - 1) (by omega) (tX9_isLetter (by omega)) ?_
    refine qX9_takeWord_28 (F1.lay L) rfl rfl rfl rfl (fun _ => vin) (fun r r2 => ?_) (fun r r2 => ?_) (fun r => ?_)
    · rw [b2i_z] at r
      rw [if_neg (by rw [r]; decide)] at eR
      rw [es, show (8 : Int32) = nI 8 from rfl, nI_leI (by omega) (by decide)] at r2
      exact (fin M1 F1 g2 g3 (by rw [eR]; exact g4) g7 (by rw [eR]; exact g6)).1 (by rw [eR]; omega)
    · rw [b2i_z] at r
      rw [if_neg (by rw [r]; decide)] at eR
      rw [es, show (8 : Int32) = nI 8 from rfl, nI_leI (by omega) (by decide)] at r2
      exact (fin M1 F1 g2 g3 (by rw [eR]; exact g4) g7 (by rw [eR]; exact g6)).2 (by rw [eR]; omega)
    · rw [b2i_n] at r
      rw [if_pos r] at eR
      have h97 : 97 ≤ t x := by
        unfold isLc at r
        simp only [Bool.and_eq_true, decide_eq_true_eq] at r
        exact r.1
      rw [ec]
      refine ih (by omega) _ ((F1.wj rfl).wi rfl) ?_ ?_ ?_ ?_ ?_ eR
      · rw [wi_at, if_neg (by omega), wj_i]; exact g2
      · rw [wi_at, if_neg (by omega), wj_i]; exact g3
      · rw [wi_at, if_pos ⟨rfl, rfl⟩, g4, nI_1]
      · rw [wi_at, if_neg (by omega), wj_i]; exact g7
      · rw [wi_j, wj_at, if_pos ⟨rfl, rfl⟩, g6, show x + 1 - a = (x - a) + 1 by omega, ltR, hRx, show a + (x - a) = x by omega]
        rcases lJ_step (x := hRx 32 (ltR t a (x - a))) h97 with z | z
        · exact z
        · omega
theorem nI_step {x c : Nat} (hc : 48 ≤ c) : nI x * 10 + (nI c - 48) = nI (x * 10 + (c - 48)) := by
  rw [show (48 : Int32) = nI 48 from rfl, pk_sub hc, show (10 : Int32) = nI 10 from rfl, pk_mul, nI_add]
theorem tX9_takeNumber {a : Nat} (L : Lay M la lb pa pb0 rl) (T : TapeIs M n t) (ha : a < n) (hl : isDc (t a) = true) (hnl : isLc (t a) = false) (h3 : mi M 25 3 = nI a) (h4 : mi M 25 4 = nI a) (h7 : mi M 25 7 = -1) (hd : 1 ≤ d) : R0 g YX9_takeNumber d [.ref 25] M (fun rv M1 => rv = none ∧ TkC M1 (lexA n t a) ∧ mi M1 25 2 = nI n ∧ Fr in25 M M1) := by
  have hn := T.1
  have eK : lexA n t a = ((if 4 < runW isDc t (n - a) a - a then 4 else 2), a, runW isDc t (n - a) a, [], nuR t a (runW isDc t (n - a) a - a), 0) := by
    unfold lexA
    rw [if_pos ha, if_neg (by rw [hnl]; decide), if_pos hl]
  have hrun := runW_le isDc t (n - a) a
  refine R0.of (by decide +kernel) (Nat.le_of_ble_eq_true rfl) rfl (qX9_takeNumber_0 L rfl ?_)
  have fin : ∀ M1, Fr in25 M M1 → mi M1 25 2 = nI n → mi M1 25 3 = nI a → mi M1 25 4 = nI (runW isDc t (n - a) a) → mi M1 25 7 = -1 → mi M1 25 8 = nI (nuR t a (runW isDc t (n - a) a - a)) → ∀ y : Nat, (y = if 4 < runW isDc t (n - a) a - a then 4 else 2) → (none : Option Value) = none ∧ TkC (wi M1 25 5 (nI y)) (lexA n t a) ∧ mi (wi M1 25 5 (nI y)) 25 2 = nI n ∧ Fr in25 M (wi M1 25 5 (nI y)) := by
    intro M1 F1 g2 g3 g4 g7 g8 y hy
    have q : ∀ j, j ≠ 5 → mi (wi M1 25 5 (nI y)) 25 j = mi M1 25 j := fun j h2 => by rw [wi_at, if_neg (fun z => h2 z.2)]
    refine ⟨rfl, ?_, by rw [q 2 (by omega)]; exact g2, F1.wi rfl⟩
    rw [eK, ← hy]
    have hy1 : y ≠ 1 ∧ y ≠ 3 := by rw [hy]; split <;> omega
    refine ⟨by rw [q 3 (by omega)]; exact g3, by rw [q 4 (by omega)]; exact g4, by rw [wi_at, if_pos ⟨rfl, rfl⟩], ?_, fun z => absurd z hy1.1, fun _ => by rw [q 8 (by omega)]; exact g8, fun z => absurd z hy1.2⟩
    rw [q 7 (by omega), g7]
    unfold kkw
    rw [if_neg (show ¬ y = 1 from hy1.1)]
  have key := up (p := fun x => a ≤ x → ∀ M1, Fr in25 M M1 → mi M1 25 2 = nI n → mi M1 25 3 = nI a → mi M1 25 4 = nI x → mi M1 25 7 = -1 → mi M1 25 8 = nI (nuR t a (x - a)) → runW isDc t (n - a) a = runW isDc t (n - x) x → E0 g YX9_takeNumber d 5 [(0, .ref 25)] [] M1 (fun rv M1 => rv = none ∧ TkC M1 (lexA n t a) ∧ mi M1 25 2 = nI n ∧ Fr in25 M M1)) n (fun hx M1 F1 g2 g3 g4 g7 g6 eR => ?_) (fun x hx ih hax M1 F1 g2 g3 g4 g7 g6 eR => ?_) a (Nat.le_of_lt ha) (Nat.le_refl _)
  · refine key _ (Fr.rf.wi rfl) T.2.1 h3 h4 h7 ?_ rfl
    rw [wi_at, if_pos ⟨rfl, rfl⟩, Nat.sub_self]; rfl
  · rw [Nat.sub_self, runW] at eR
    have es : mi M1 25 4 - mi M1 25 3 = nI (n - a) := by rw [g3, g4, pk_sub (by omega)]
    have le : mi M1 25 2 ≤ mi M1 25 4 := by rw [g2, g4]; exact nI_le (Nat.le_refl _) (by omega)
    refine qX9_takeNumber_5 (F1.lay L) rfl rfl (fun r => absurd le r) (fun _ r => ?_) (fun _ r => ?_) (fun r => absurd le r)
    · rw [es, show (4 : Int32) = nI 4 from rfl, nI_leI (by omega) (by decide)] at r
      exact fin M1 F1 g2 g3 (by rw [eR]; exact g4) g7 (by rw [eR]; exact g6) 2 (by rw [eR, if_neg (by omega)])
    · rw [es, show (4 : Int32) = nI 4 from rfl, nI_leI (by omega) (by decide)] at r
      exact fin M1 F1 g2 g3 (by rw [eR]; exact g4) g7 (by rw [eR]; exact g6) 4 (by rw [eR, if_pos (by omega)])
  · have e2 : n - x = (n - (x + 1)) + 1 := by omega
    rw [e2, runW] at eR
    have T1 := F1.i (show ¬ in25 27 by omega)
    have ht := T.2.2 x hx
    have nle : ¬ mi M1 25 2 ≤ mi M1 25 4 := by rw [g2, g4, nI_leI (by omega) (by omega)]; omega
    have ec : mi M1 27 (mi M1 25 4).toNatClampNeg = nI (t x) := by rw [g4, nI_clamp (by omega), T1, ht.1]
    have es : mi M1 25 4 - mi M1 25 3 = nI (x - a) := by rw [g3, g4, pk_sub (by omega)]
    have vin : vp_in (mi M1 25 4) 1000 := by rw [g4]; exact vi (by omega) (by decide)
    refine qX9_takeNumber_5 (F1.lay L) rfl rfl (fun _ => vin) (fun r => absurd r nle) (fun r => absurd r nle) (fun _ => ?_)
    rw [ec]
    refine K0.ans (d1 := d - 1) (by omega) (tX9_isDigit (by omega)) ?_
    refine qX9_takeNumber_28 (F1.lay L) rfl rfl rfl rfl (fun _ => vin) (fun r r2 => ?_) (fun r r2 => ?_) (fun r => ?_)
    · rw [b2i_z] at r
      rw [if_neg (by rw [r]; decide)] at eR
      rw [es, show (4 : Int32) = nI 4 from rfl, nI_leI (by omega) (by decide)] at r2
      exact fin M1 F1 g2 g3 (by rw [eR]; exact g4) g7 (by rw [eR]; exact g6) 2 (by rw [eR, if_neg (by omega)])
    · rw [b2i_z] at r
      rw [if_neg (by rw [r]; decide)] at eR
      rw [es, show (4 : Int32) = nI 4 from rfl, nI_leI (by omega) (by decide)] at r2
      exact fin M1 F1 g2 g3 (by rw [eR]; exact g4) g7 (by rw [eR]; exact g6) 4 (by rw [eR, if_pos (by omega)])
    · rw [b2i_n] at r
      rw [if_pos r] at eR
      have h48 : 48 ≤ t x := by
        unfold isDc at r
        simp only [Bool.and_eq_true, decide_eq_true_eq] at r
        exact r.1
      rw [ec]
      refine ih (by omega) _ ((F1.wi rfl).wi rfl) ?_ ?_ ?_ ?_ ?_ eR
      · rw [wi_at, if_neg (by omega), wi_at, if_neg (by omega)]; exact g2
      · rw [wi_at, if_neg (by omega), wi_at, if_neg (by omega)]; exact g3
      · rw [wi_at, if_pos ⟨rfl, rfl⟩, wi_at, if_neg (by omega), g4, nI_1]
      · rw [wi_at, if_neg (by omega), wi_at, if_neg (by omega)]; exact g7
      · rw [wi_at, if_neg (by omega), wi_at, if_pos ⟨rfl, rfl⟩, g6, show x + 1 - a = (x - a) + 1 by omega, nuR, show a + (x - a) = x by omega, nI_step h48]
theorem nar_c {x : Nat} (h : x < 127) : narrow .char (.int (nI x)) = .int (nI x) ∧ fits .char (.int (nI x)) = true := (by decide +kernel : ∀ x, x < 127 → narrow .char (.int (nI x)) = .int (nI x) ∧ fits .char (.int (nI x)) = true) x h
theorem sgc_t : ∀ x, x < 127 → isSgc x = true → x = 40 ∨ x = 41 ∨ x = 42 ∨ x = 43 ∨ x = 45 ∨ x = 59 ∨ x = 60 ∨ x = 61 := by decide +kernel
theorem tX9_takeSign {a : Nat} (L : Lay M la lb pa pb0 rl) (T : TapeIs M n t) (ha : a < n) (hnd : isDc (t a) = false) (hnl : isLc (t a) = false) (h3 : mi M 25 3 = nI a) (h4 : mi M 25 4 = nI a) (h7 : mi M 25 7 = -1) : R0 g YX9_takeSign d [.ref 25] M (fun rv M1 => rv = none ∧ TkC M1 (lexA n t a) ∧ mi M1 25 2 = nI n ∧ Fr in25 M M1) := by
  have hn := T.1
  have ht := T.2.2 a ha
  have eK : lexA n t a = ((if isSgc (t a) then 3 else 4), a, a + 1, [], 0, t a) := by
    unfold lexA
    rw [if_pos ha, if_neg (by rw [hnl]; decide), if_neg (by rw [hnd]; decide)]
  have nle : ¬ mi M 25 2 ≤ mi M 25 4 := by rw [T.2.1, h4, nI_leI (by omega) (by omega)]; omega
  have ec : mi M 27 (mi M 25 4).toNatClampNeg = nI (t a) := by rw [h4, nI_clamp (by omega), ht.1]
  refine R0.of (by decide +kernel) (Nat.le_of_ble_eq_true rfl) rfl (qX9_takeSign_0 L rfl rfl (fun _ => by rw [h4]; exact vi (by omega) (by decide)) (fun _ => by rw [ec]; exact nar_c ht.2) (fun r => absurd r nle) (fun _ => ?_))
  rw [ec]
  have e4 : mi (wi M 25 9 (nI (t a))) 25 4 + 1 = nI (a + 1) := by rw [wi_at, if_neg (by omega), h4, nI_1]
  rw [e4]
  generalize hM : wi (wi M 25 9 (nI (t a))) 25 4 (nI (a + 1)) = M2
  have F2 : Fr in25 M M2 := by rw [← hM]; exact Fr.wi (S := in25) (Fr.wi (S := in25) Fr.rf rfl) rfl
  have m : ∀ j, mi M2 25 j = if j = 4 then nI (a + 1) else if j = 9 then nI (t a) else mi M 25 j := fun j => by
    rw [← hM, wi_at]
    by_cases q : j = 4
    · rw [if_pos ⟨rfl, q⟩, if_pos q]
    · rw [if_neg (fun z => q z.2), if_neg q, wi_at]
      by_cases q : j = 9
      · rw [if_pos ⟨rfl, q⟩, if_pos q]
      · rw [if_neg (fun z => q z.2), if_neg q]
  have e9 : (mi M2 25 9).toInt = (t a : Int) := by rw [m, if_neg (by omega), if_pos rfl, nI_toInt (by omega)]
  have fin : ∀ y : Nat, (y = if isSgc (t a) then 3 else 4) → (none : Option Value) = none ∧ TkC (wi M2 25 5 (nI y)) (lexA n t a) ∧ mi (wi M2 25 5 (nI y)) 25 2 = nI n ∧ Fr in25 M (wi M2 25 5 (nI y)) := by
    intro y hy
    have q : ∀ j, j ≠ 5 → mi (wi M2 25 5 (nI y)) 25 j = if j = 4 then nI (a + 1) else if j = 9 then nI (t a) else mi M 25 j := fun j h2 => by rw [wi_at, if_neg (fun z => h2 z.2), m]
    refine ⟨rfl, ?_, by rw [q 2 (by omega)]; exact T.2.1, F2.wi rfl⟩
    rw [eK, ← hy]
    have hy1 : y ≠ 1 ∧ y ≠ 2 := by rw [hy]; split <;> omega
    refine ⟨by rw [q 3 (by omega)]; exact h3, by rw [q 4 (by omega)]; rfl, by rw [wi_at, if_pos ⟨rfl, rfl⟩], ?_, fun z => absurd z hy1.1, fun z => absurd z hy1.2, fun _ => by rw [q 9 (by omega)]; rfl⟩
    rw [q 7 (by omega)]
    unfold kkw
    rw [if_neg (show ¬ y = 1 from hy1.1)]
    exact h7
  have y3 : isSgc (t a) = true → E0 g YX9_takeSign d 140 [(0, .ref 25)] [] M2 (fun rv M1 => rv = none ∧ TkC M1 (lexA n t a) ∧ mi M1 25 2 = nI n ∧ Fr in25 M M1) := fun h => qX9_takeSign_140 (F2.lay L) rfl (fin 3 (by rw [if_pos h]))
  have y4 : isSgc (t a) = false → E0 g YX9_takeSign d 148 [(0, .ref 25)] [] M2 (fun rv M1 => rv = none ∧ TkC M1 (lexA n t a) ∧ mi M1 25 2 = nI n ∧ Fr in25 M M1) := fun h => qX9_takeSign_148 (F2.lay L) rfl (fin 4 (by rw [if_neg (by rw [h]; decide)]))
  have sg : ∀ x : Nat, t a = x → isSgc (t a) = isSgc x := fun x h => by rw [h]
  refine qX9_takeSign_34 (F2.lay L) (fun r => y4 ?_) (fun r => y3 ?_) (fun r => y3 ?_) (fun r => y3 ?_) (fun r => y3 ?_) (fun r => y4 ?_) (fun r => y3 ?_) (fun r => y4 ?_) (fun r => y4 ?_) (fun r => y4 ?_) (fun r => y4 ?_) (fun r => y4 ?_) (fun r => y4 ?_) (fun r => y4 ?_) (fun r => y4 ?_) (fun r => y4 ?_) (fun r => y4 ?_) (fun r => y4 ?_) (fun r => y4 ?_) (fun r => y4 ?_) (fun r => y3 ?_) (fun r => y3 ?_) (fun r => y3 ?_) <;> rw [e9] at r
  · cases q : isSgc (t a)
    · rfl
    · have := sgc_t (t a) ht.2 q
      omega
  · exact (sg 40 (by omega)).trans rfl
  · exact (sg 41 (by omega)).trans rfl
  · exact (sg 42 (by omega)).trans rfl
  · exact (sg 43 (by omega)).trans rfl
  · exact (sg 44 (by omega)).trans rfl
  · exact (sg 45 (by omega)).trans rfl
  · exact (sg 46 (by omega)).trans rfl
  · exact (sg 47 (by omega)).trans rfl
  · exact (sg 48 (by omega)).trans rfl
  · exact (sg 49 (by omega)).trans rfl
  · exact (sg 50 (by omega)).trans rfl
  · exact (sg 51 (by omega)).trans rfl
  · exact (sg 52 (by omega)).trans rfl
  · exact (sg 53 (by omega)).trans rfl
  · exact (sg 54 (by omega)).trans rfl
  · exact (sg 55 (by omega)).trans rfl
  · exact (sg 56 (by omega)).trans rfl
  · exact (sg 57 (by omega)).trans rfl
  · exact (sg 58 (by omega)).trans rfl
  · exact (sg 59 (by omega)).trans rfl
  · exact (sg 60 (by omega)).trans rfl
  · exact (sg 61 (by omega)).trans rfl
theorem tX9_advance {p : Nat} (L : Lay M la lb pa pb0 rl) (W : WdOk M) (T : TapeIs M n t) (hp : p ≤ n) (h4 : mi M 25 4 = nI p) (hd : 2 ≤ d) : R0 g YX9_advance d [.ref 25] M (fun rv M1 => rv = none ∧ TkC M1 (lexT n t p) ∧ mi M1 25 2 = nI n ∧ Fr in25 M M1) := by
  have hn := T.1
  refine R0.of (by decide +kernel) (Nat.le_of_ble_eq_true rfl) rfl (qX9_advance_0 L rfl ?_)
  rw [h4]
  have key := up (p := fun x => ∀ M1, Fr in25 M M1 → mi M1 25 2 = nI n → mi M1 25 3 = nI x → skipB t (n - p) p = skipB t (n - x) x → E0 g YX9_advance d 8 [(0, .ref 25)] [] M1 (fun rv M1 => rv = none ∧ TkC M1 (lexT n t p) ∧ mi M1 25 2 = nI n ∧ Fr in25 M M1)) n (fun M1 F1 g2 g3 eR => ?_) (fun x hx ih M1 F1 g2 g3 eR => ?_) p hp
  · refine key _ (Fr.rf.wi rfl) ?_ ?_ rfl
    · rw [wi_at, if_neg (by omega)]; exact T.2.1
    · rw [wi_at, if_pos ⟨rfl, rfl⟩]
  · rw [Nat.sub_self, skipB] at eR
    have le : mi M1 25 2 ≤ mi M1 25 3 := by rw [g2, g3]; exact nI_le (Nat.le_refl _) (by omega)
    have eK : lexT n t p = (0, n, n, [], 0, 0) := by
      unfold lexT lexA
      rw [eR, if_neg (by omega)]
    have m : ∀ j, mi (wi (wi (wi M1 25 4 (mi M1 25 3)) 25 9 0) 25 7 (-1)) 25 j = if j = 7 then -1 else if j = 9 then 0 else if j = 4 then nI n else mi M1 25 j := fun j => by
      rw [wi_at]
      by_cases q : j = 7
      · rw [if_pos ⟨rfl, q⟩, if_pos q]
      · rw [if_neg (fun z => q z.2), if_neg q, wi_at]
        by_cases q : j = 9
        · rw [if_pos ⟨rfl, q⟩, if_pos q]
        · rw [if_neg (fun z => q z.2), if_neg q, wi_at]
          by_cases q : j = 4
          · rw [if_pos ⟨rfl, q⟩, if_pos q, g3]
          · rw [if_neg (fun z => q z.2), if_neg q]
    have nlt : ¬ mi (wi (wi (wi M1 25 4 (mi M1 25 3)) 25 9 0) 25 7 (-1)) 25 3 < mi (wi (wi (wi M1 25 4 (mi M1 25 3)) 25 9 0) 25 7 (-1)) 25 2 := by
      rw [m, m]
      show ¬ mi M1 25 3 < mi M1 25 2
      rw [g2, g3]
      exact nI_nlt (Nat.le_refl _) (by omega)
    refine qX9_advance_8 (F1.lay L) rfl rfl rfl rfl rfl rfl rfl rfl rfl rfl (fun _ r => absurd r nlt) (fun r => absurd le r) (fun r => absurd le r) (fun r => absurd le r) (fun _ r => absurd r nlt) (fun _ _ => qX9_advance_145 ⟨rfl, ?_, ?_, (((F1.wi rfl).wi rfl).wi rfl).wi rfl⟩) (fun r => absurd le r) (fun r => absurd le r) (fun r => absurd le r) (fun r => absurd le r)
    · rw [eK]
      refine ⟨?_, ?_, ?_, ?_, fun z => absurd (show (0 : Nat) = 1 from z) (by decide), fun z => absurd (show (0 : Nat) = 2 from z) (by decide), fun z => absurd (show (0 : Nat) = 3 from z) (by decide)⟩
      · rw [wi_at, if_neg (by omega), m]; exact g3
      · rw [wi_at, if_neg (by omega), m]; rfl
      · rw [wi_at, if_pos ⟨rfl, rfl⟩]; rfl
      · rw [wi_at, if_neg (by omega), m]; rfl
    · rw [wi_at, if_neg (by omega), m]; exact g2
  · have e2 : n - x = (n - (x + 1)) + 1 := by omega
    rw [e2, skipB] at eR
    have ht := T.2.2 x hx
    have T1 := F1.i (show ¬ in25 27 by omega)
    have nle : ¬ mi M1 25 2 ≤ mi M1 25 3 := by rw [g2, g3, nI_leI (by omega) (by omega)]; omega
    have ec : mi M1 27 (mi M1 25 3).toNatClampNeg = nI (t x) := by rw [g3, nI_clamp (by omega), T1, ht.1]
    have vin : vp_in (mi M1 25 3) 1000 := by rw [g3]; exact vi (by omega) (by decide)
    have e10 : nI (t x) = 10 ↔ t x = 10 := by rw [show (10 : Int32) = nI 10 from rfl]; exact nI_eq (by omega) (by decide)
    have e32 : nI (t x) = 32 ↔ t x = 32 := by rw [show (32 : Int32) = nI 32 from rfl]; exact nI_eq (by omega) (by decide)
    generalize hN : wi (wi (wi M1 25 4 (mi M1 25 3)) 25 9 0) 25 7 (-1) = N
    have F2 : Fr in25 M N := by rw [← hN]; exact Fr.wi (S := in25) (Fr.wi (S := in25) (Fr.wi (S := in25) F1 rfl) rfl) rfl
    have m : ∀ j, mi N 25 j = if j = 7 then -1 else if j = 9 then 0 else if j = 4 then nI x else mi M1 25 j := fun j => by
      rw [← hN, wi_at]
      by_cases q : j = 7
      · rw [if_pos ⟨rfl, q⟩, if_pos q]
      · rw [if_neg (fun z => q z.2), if_neg q, wi_at]
        by_cases q : j = 9
        · rw [if_pos ⟨rfl, q⟩, if_pos q]
        · rw [if_neg (fun z => q z.2), if_neg q, wi_at]
          by_cases q : j = 4
          · rw [if_pos ⟨rfl, q⟩, if_pos q, g3]
          · rw [if_neg (fun z => q z.2), if_neg q]
    have m3 : mi N 25 3 = nI x := (m 3).trans g3
    have m4 : mi N 25 4 = nI x := m 4
    have m7 : mi N 25 7 = -1 := m 7
    have m2 : mi N 25 2 = nI n := (m 2).trans g2
    have TN : TapeIs N n t := ⟨hn, m2, fun k hk => by rw [F2.i (show ¬ in25 27 by omega)]; exact T.2.2 k hk⟩
    have WN : WdOk N := fun i hi => by rw [F2.j (show ¬ in25 26 by omega)]; exact W i hi
    have lt : mi N 25 3 < mi N 25 2 := by rw [m3, m2]; exact nI_lt hx (by omega)
    have goOn : isBlc (t x) = true → E0 g YX9_advance d 8 [(0, .ref 25)] [] (wi M1 25 3 (mi M1 25 3 + 1)) (fun rv M1 => rv = none ∧ TkC M1 (lexT n t p) ∧ mi M1 25 2 = nI n ∧ Fr in25 M M1) := fun hb => by
      rw [if_pos hb] at eR
      refine ih _ (F1.wi rfl) ?_ ?_ eR
      · rw [wi_at, if_neg (by omega)]; exact g2
      · rw [wi_at, if_pos ⟨rfl, rfl⟩, g3, nI_1]
    refine qX9_advance_8 (F1.lay L) rfl rfl rfl rfl rfl rfl rfl hN.symm rfl rfl (fun r => absurd r nle) (fun _ => vin) (fun _ _ => vin) (fun _ _ _ _ => by rw [m3]; exact vi (by omega) (by decide)) (fun r => absurd r nle) (fun r => absurd r nle) (fun _ r => ?_) (fun _ r1 r2 _ => ?_) (fun _ _ _ r => absurd lt r) (fun _ _ r => ?_)
    · rw [ec, e10] at r
      exact goOn (by simp [isBlc, r])
    · rw [ec, e10] at r1
      rw [ec, e32] at r2
      have hb : isBlc (t x) = false := by simp [isBlc, r1, r2]
      rw [if_neg (by rw [hb]; decide)] at eR
      have eK : lexT n t p = lexA n t x := by unfold lexT; rw [eR]
      rw [eK]
      have ecN : mi N 27 (mi N 25 3).toNatClampNeg = nI (t x) := by rw [m3, nI_clamp (by omega)]; exact (TN.2.2 x hx).1
      have vinN : vp_in (mi N 25 3) 1000 := by rw [m3]; exact vi (by omega) (by decide)
      rw [ecN]
      refine K0.ans (d1 := d - 1) (by omega) (tX9_isLetter (by omega)) (qX9_advance_109 (F2.lay L) (fun _ => vinN) (fun r => ?_) (fun r => ?_))
      · rw [b2i_z] at r
        rw [ecN]
        refine K0.ans (d1 := d - 1) (by omega) (tX9_isDigit (by omega)) (qX9_advance_131 (F2.lay L) (fun r3 => ?_) (fun r3 => ?_))
        · rw [b2i_z] at r3
          refine K0.set (d1 := d - 1) (by omega) (tX9_takeSign (F2.lay L) TN hx r3 r m3 m4 m7) ?_
          rintro rv M3 ⟨rfl, K3, S3, F3⟩
          exact qX9_advance_145 ⟨rfl, K3, S3, F2.trans F3⟩
        · rw [b2i_n] at r3
          refine K0.set (d1 := d - 1) (by omega) (tX9_takeNumber (F2.lay L) TN hx r3 r m3 m4 m7 (by omega)) ?_
          rintro rv M3 ⟨rfl, K3, S3, F3⟩
          exact qX9_advance_138 (qX9_advance_145 ⟨rfl, K3, S3, F2.trans F3⟩)
      · rw [b2i_n] at r
        refine K0.set (d1 := d - 1) (by omega) (tX9_takeWord (F2.lay L) WN TN hx r m3 m4 m7 (by omega)) ?_
        rintro rv M3 ⟨rfl, K3, S3, F3⟩
        exact qX9_advance_116 (qX9_advance_145 ⟨rfl, K3, S3, F2.trans F3⟩)
    · rw [ec, e32] at r
      exact goOn (by simp [isBlc, r])
theorem tX9_start (L : Lay M la lb pa pb0 rl) (W : WdOk M) (T : TapeIs M n t) (hd : 3 ≤ d) : R0 g YX9_start d [.ref 25] M (fun rv M1 => rv = none ∧ TkC M1 (lexT n t 0) ∧ mi M1 25 2 = nI n ∧ Fr in25 M M1) := by
  have F1 : Fr in25 M (wi M 25 4 0) := Fr.rf.wi rfl
  have T1 : TapeIs (wi M 25 4 0) n t := ⟨T.1, by rw [wi_at, if_neg (by omega)]; exact T.2.1, fun k hk => by rw [wi_at, if_neg (by omega)]; exact T.2.2 k hk⟩
  refine R0.of (by decide +kernel) (Nat.le_of_ble_eq_true rfl) rfl (qX9_start_0 L rfl (K0.set (d1 := d - 1) (by omega) (tX9_advance (p := 0) (F1.lay L) W T1 (Nat.zero_le _) (by rw [wi_at, if_pos ⟨rfl, rfl⟩]; rfl) (by omega)) ?_))
  rintro rv M2 ⟨rfl, K2, S2, F2⟩
  exact qX9_start_9 ⟨rfl, K2, S2, F1.trans F2⟩
def kIs (K : TK) (x : Nat) : Bool := decide (kty K = 3) && decide (ksg K = x)
theorem lexA_sg {n : Nat} {t : Nat → Nat} {a : Nat} (h : ∀ k, k < n → t k < 127) : ksg (lexA n t a) < 127 := by
  unfold lexA
  split
  · split
    · exact (by decide : 0 < 127)
    · split
      · exact (by decide : 0 < 127)
      · exact h a (by assumption)
  · exact (by decide : 0 < 127)
theorem tX9_isSign {K : TK} {x : Nat} (L : Lay M la lb pa pb0 rl) (H : TkC M K) (hk : kty K ≤ 4) (hs : ksg K < 127) (hx : x < 127) : R0 g YX9_isSign d [.ref 25, .int (nI x)] M (Ans (b2i (kIs K x)) M) := by
  have e3 : mi M 25 5 = 3 ↔ kty K = 3 := by rw [H.2.2.1, show (3 : Int32) = nI 3 from rfl]; exact nI_eq (by omega) (by decide)
  refine R0.of (by decide +kernel) (Nat.le_of_ble_eq_true rfl) rfl (qX9_isSign_0 L (fun r => ?_) (fun r1 r2 => ?_) (fun r1 r2 => ?_))
  · rw [e3] at r
    simp [Ans, kIs, r, b2i]
  · rw [e3] at r1
    rw [H.2.2.2.2.2.2 r1, nI_eq (by omega) (by omega)] at r2
    simp [Ans, kIs, r2, b2i]
  · rw [e3] at r1
    rw [H.2.2.2.2.2.2 r1, nI_eq (by omega) (by omega)] at r2
    simp [Ans, kIs, r1, r2, b2i]
/-! ===== feeding ===== -/
def byN (j : Int64) (s : Int32) : Int32 := ((j.toUInt64 >>> (s.toInt64.toUInt64 &&& Int64.toUInt64 63)).toInt64).toInt32 &&& 255
def isFd (x : Nat) : Bool := decide (x = 10) || (decide (32 ≤ x) && decide (x ≤ 126))
def addB (s : Nat × (Nat → Nat)) (x : Nat) : Nat × (Nat → Nat) := if isFd x = true ∧ s.1 < 1000 then (s.1 + 1, fun k => if k = s.1 then x else s.2 k) else s
/-- r bytes more -/
def fdF (j : Int64) : Nat → Nat × (Nat → Nat) → Nat × (Nat → Nat)
  | 0, s => s
  | r + 1, s => fdF j r (addB s (byN j (nI (8 * r))).toNatClampNeg)
theorem byN_nI (j : Int64) (s : Int32) : ∃ b, b < 256 ∧ byN j s = nI b := by
  unfold byN
  exact pk_andE _ 8 rfl
theorem nar_by : ∀ b, b < 256 → vp_nar .char (((nI b).toUInt32 % 65536).toInt32) = nI b := by decide +kernel
theorem tX9_addBytes {j : Int64} (L : Lay M la lb pa pb0 rl) (T : TapeIs M n t) : R0 g YX9_addBytes d [.ref 25, .long j] M (fun rv M1 => rv = none ∧ TapeIs M1 (fdF j 8 (n, t)).1 (fdF j 8 (n, t)).2 ∧ Fr (fun b => b = 25 ∨ b = 27) M M1) := by
  refine R0.of (by decide +kernel) (Nat.le_of_ble_eq_true rfl) rfl (qX9_addBytes_0 ?_)
  have key : ∀ r, r ≤ 8 → ∀ s M1, Fr (fun b => b = 25 ∨ b = 27) M M1 → TapeIs M1 s.1 s.2 → E0 g YX9_addBytes d 3 [(0, .ref 25), (1, .long j), (3, .int (nI (8 * r) - 8))] [] M1 (fun rv M1 => rv = none ∧ TapeIs M1 (fdF j r s).1 (fdF j r s).2 ∧ Fr (fun b => b = 25 ∨ b = 27) M M1) := by
    intro r
    induction r with
    | zero =>
      intro _ s M1 F1 T1
      exact qX9_addBytes_3 (F1.lay L) rfl rfl rfl rfl (fun r => absurd (by decide) r) (fun r => absurd (by decide) r) (fun _ => ⟨rfl, T1, F1⟩) (fun r => absurd (by decide) r) (fun r => absurd (by decide) r) (fun r => absurd (by decide) r) (fun r => absurd (by decide) r) (fun r => absurd (by decide) r) (fun r => absurd (by decide) r)
    | succ r ih =>
      intro hr s M1 F1 T1
      have es : nI (8 * (r + 1)) - 8 = nI (8 * r) := by
        rw [show (8 : Int32) = nI 8 from rfl, pk_sub (by omega)]
        congr 1
      have en : nI (8 * r) + (-8) = nI (8 * r) - 8 := by rw [Int32.sub_eq_add_neg]
      have hneg : ¬ nI (8 * r) < 0 := nI_pos (by omega)
      rw [es]
      obtain ⟨b, hb, eb⟩ := byN_nI j (nI (8 * r))
      have eb' : (((j.toUInt64 >>> ((nI (8 * r)).toInt64.toUInt64 &&& Int64.toUInt64 63)).toInt64).toInt32 &&& 255) = nI b := eb
      have e10 : nI b = 10 ↔ b = 10 := by rw [show (10 : Int32) = nI 10 from rfl]; exact nI_eq (by omega) (by decide)
      have e32 : nI b < 32 ↔ b < 32 := by rw [show (32 : Int32) = nI 32 from rfl]; exact nI_ltI (by omega) (by decide)
      have e126 : (126 : Int32) < nI b ↔ 126 < b := by rw [show (126 : Int32) = nI 126 from rfl]; exact nI_ltI (by decide) (by omega)
      have e1000 : (1000 : Int32) ≤ mi M1 25 2 ↔ 1000 ≤ s.1 := by rw [T1.2.1, show (1000 : Int32) = nI 1000 from rfl]; exact nI_leI (by decide) (by have := T1.1; omega)
      have vin : ¬ (1000 : Int32) ≤ mi M1 25 2 → vp_in (mi M1 25 2) 1000 := fun q => by
        rw [e1000] at q
        rw [T1.2.1]
        exact vi (by omega) (by decide)
      have eF : fdF j (r + 1) s = fdF j r (addB s b) := by rw [fdF, eb, nI_clamp (by omega)]
      rw [eF]
      have stay : ¬ (isFd b = true ∧ s.1 < 1000) → E0 g YX9_addBytes d 3 [(0, .ref 25), (1, .long j), (3, .int (nI (8 * r) + (-8)))] [] M1 (fun rv M1 => rv = none ∧ TapeIs M1 (fdF j r (addB s b)).1 (fdF j r (addB s b)).2 ∧ Fr (fun b => b = 25 ∨ b = 27) M M1) := fun q => by
        unfold addB
        rw [if_neg q, en]
        exact ih (by omega) s M1 F1 T1
      have put : isFd b = true → ¬ (1000 : Int32) ≤ mi M1 25 2 → E0 g YX9_addBytes d 3 [(0, .ref 25), (1, .long j), (3, .int (nI (8 * r) + (-8)))] [] (wi (wi M1 27 (mi M1 25 2).toNatClampNeg (nI b)) 25 2 (mi (wi M1 27 (mi M1 25 2).toNatClampNeg (nI b)) 25 2 + 1)) (fun rv M1 => rv = none ∧ TapeIs M1 (fdF j r (addB s b)).1 (fdF j r (addB s b)).2 ∧ Fr (fun b => b = 25 ∨ b = 27) M M1) := fun q q2 => by
        rw [e1000] at q2
        have hs : s.1 < 1000 := by omega
        have hb127 : b < 127 := by
          unfold isFd at q
          simp only [Bool.or_eq_true, Bool.and_eq_true, decide_eq_true_eq] at q
          omega
        unfold addB
        rw [if_pos ⟨q, hs⟩, en, T1.2.1, nI_clamp (by omega)]
        refine ih (by omega) _ _ ((F1.wi (.inr rfl)).wi (.inl rfl)) ⟨by show s.1 + 1 ≤ 1000; omega, ?_, fun k hk => ?_⟩
        · rw [wi_at, if_pos ⟨rfl, rfl⟩, wi_at, if_neg (by omega), T1.2.1, nI_1]
        · rw [wi_at, if_neg (by omega), wi_at]
          show (if 27 = 27 ∧ k = s.1 then nI b else mi M1 27 k) = nI (if k = s.1 then b else s.2 k) ∧ (if k = s.1 then b else s.2 k) < 127
          by_cases e : k = s.1
          · rw [if_pos ⟨rfl, e⟩, if_pos e]; exact ⟨rfl, hb127⟩
          · rw [if_neg (fun z => e z.2), if_neg e]
            have hk : k < s.1 + 1 := hk
            exact T1.2.2 k (by omega)
      have hM : ∀ x, vp_nar .char ((((((j.toUInt64 >>> ((nI (8 * r)).toInt64.toUInt64 &&& Int64.toUInt64 63)).toInt64).toInt32 &&& 255) : Int32).toUInt32 % 65536).toInt32) = x → x = nI b := fun x hx => by
        rw [eb', nar_by b hb] at hx
        exact hx.symm
      refine qX9_addBytes_3 (F1.lay L) rfl rfl rfl rfl (fun _ _ q => vin q) (fun _ _ _ _ q => vin q) (fun q => absurd q hneg) (fun _ q1 q2 => ?_) (fun _ q1 q2 => ?_) (fun _ q1 q2 => ?_) (fun _ q1 q2 q3 => ?_) (fun _ q1 q2 q3 q4 => ?_) (fun _ q1 q2 q3 q4 => ?_)
      · rw [e1000] at q2
        exact stay (fun z => by omega)
      · rw [hM _ rfl]
        rw [eb', e10] at q1
        exact put (by simp [isFd, q1]) q2
      · rw [eb', e10] at q1
        rw [eb', e32] at q2
        have h32 : ¬ 32 ≤ b := by omega
        exact stay (fun z => by simp [isFd, q1, h32] at z)
      · rw [eb', e10] at q1
        rw [eb', e126] at q3
        have h126 : ¬ b ≤ 126 := by omega
        exact stay (fun z => by simp [isFd, q1, h126] at z)
      · rw [e1000] at q4
        exact stay (fun z => by omega)
      · rw [hM _ rfl]
        rw [eb', e10] at q1
        rw [eb', e32] at q2
        rw [eb', e126] at q3
        have h32 : 32 ≤ b := by omega
        have h126 : b ≤ 126 := by omega
        exact put (by simp [isFd, h32, h126]) q4
  exact key 8 (by omega) (n, t) M Fr.rf T
def feedT (s : Nat × (Nat → Nat)) (a b c : Int64) : Nat × (Nat → Nat) := fdF c 8 (fdF b 8 (fdF a 8 s))
theorem tX11_feed {a b c : Int64} (L : Lay M la lb pa pb0 rl) (T : TapeIs M n t) (hd : 1 ≤ d) : R0 g YX11_feed d [.ref 0, .long a, .long b, .long c] M (fun rv M1 => rv = some (.int (nI (feedT (n, t) a b c).1)) ∧ TapeIs M1 (feedT (n, t) a b c).1 (feedT (n, t) a b c).2 ∧ Fr (fun b => b = 25 ∨ b = 27) M M1) := by
  refine R0.of (by decide +kernel) (Nat.le_of_ble_eq_true rfl) rfl (qX11_feed_0 L (K0.set (d1 := d - 1) (by omega) (tX9_addBytes L T) ?_))
  rintro rv M1 ⟨rfl, T1, F1⟩
  refine qX11_feed_8 (F1.lay L) (K0.set (d1 := d - 1) (by omega) (tX9_addBytes (F1.lay L) T1) ?_)
  rintro rv M2 ⟨rfl, T2, F2⟩
  have F02 := F1.trans F2
  refine qX11_feed_16 (F02.lay L) (K0.set (d1 := d - 1) (by omega) (tX9_addBytes (F02.lay L) T2) ?_)
  rintro rv M3 ⟨rfl, T3, F3⟩
  have F03 := F02.trans F3
  exact qX11_feed_25 (F03.lay L) ⟨by rw [T3.2.1]; rfl, T3, F03⟩
end TX9
