/-! ===== the reference: its county, what it takes out ===== -/
def RCo (M : MM) (c : CD) (F : Nat → (Nat → Int32) → Int32) : Prop := mi M 132 0 = nI (cn c) ∧ mi M 132 1 = nI (ch c) ∧ (∀ k, k < cn c → mi M 135 k = csrt c k ∧ mi M 136 k = clen c k ∧ mi M 137 k = cnds c k) ∧ (∀ k, k < ch c → mi M 138 k = ckd c k) ∧ ∀ hl, hl < ch c → RLw M hl (F hl)
/-- what holds of a county that was told -/
def COk (c : CD) (F : Nat → (Nat → Int32) → Int32) : Prop := cn c ≤ 10 ∧ ch c ≤ 6 ∧ SrtOk (cn c) (csrt c) ∧ VdD (cvd c) (csrt c) (clen c) F (cn c) (ch c) 600 ∧ (∀ k, k < ch c → ∃ kd, kd ≤ 3 ∧ ckd c k = nI kd) ∧ (∀ hl, hl < ch c → ExF (F hl)) ∧ (∀ k, k < cn c → ∃ m, 1 ≤ m ∧ m ≤ 60 ∧ clen c k = nI m) ∧ (∀ k, k < cn c → ∀ i, i < 32 → bt (cnds c k) i = true → i < cn c)
abbrev noR (S : Nat → Prop) : Prop := ∀ b, (b = 132 ∨ (135 ≤ b ∧ b ≤ 141)) → ¬ S b
theorem RCo.fr {S : Nat → Prop} {M M1 : MM} {c : CD} {F : Nat → (Nat → Int32) → Int32} (h : RCo M c F) (Fr1 : Fr S M M1) (hS : noR S) : RCo M1 c F := by
  obtain ⟨h1, h2, h3, h4, h5⟩ := h
  unfold RCo
  rw [Fr1.i (hS 132 (by omega)), Fr1.i (hS 135 (by omega)), Fr1.i (hS 136 (by omega)), Fr1.i (hS 137 (by omega)), Fr1.i (hS 138 (by omega))]
  exact ⟨h1, h2, h3, h4, fun hl hh => (h5 hl hh).fr Fr1 (hS 139 (by omega)) (hS 140 (by omega)) (hS 141 (by omega))⟩
abbrev inE : Nat → Prop := fun b => 144 ≤ b ∧ b ≤ 153
/-- pure: taking out, shot by shot -/
def tkR (srt len : Nat → Int32) (F : (Nat → Int32) → Int32) (kd row : Int32) : Nat → Int32 × Bool × Int32
  | 0 => (0, false, -1)
  | k + 1 => if bt row k then
      ((if F (mkE (srt k) (len k) (nI (sHL srt len F row k).2.1) (sHL srt len F row k).2.2) = 0 ∨ (kd = 1 ∧ ¬ (if (tkR srt len F kd row k).2.1 = true ∧ kd = 2 then (tkR srt len F kd row k).1 ||| ((1 : Int32) <<< (nI k &&& 31)) else (tkR srt len F kd row k).1) = 0) then (if (tkR srt len F kd row k).2.1 = true ∧ kd = 2 then (tkR srt len F kd row k).1 ||| ((1 : Int32) <<< (nI k &&& 31)) else (tkR srt len F kd row k).1) else (if (tkR srt len F kd row k).2.1 = true ∧ kd = 2 then (tkR srt len F kd row k).1 ||| ((1 : Int32) <<< (nI k &&& 31)) else (tkR srt len F kd row k).1) ||| ((1 : Int32) <<< (nI k &&& 31))),
        !decide (F (mkE (srt k) (len k) (nI (sHL srt len F row k).2.1) (sHL srt len F row k).2.2) = 0), nI k)
    else tkR srt len F kd row k
theorem lowb : ∀ k, k < 10 → ∀ m, m < 1024 → m < 2 ^ k → ((nI m ||| ((1 : Int32) <<< (nI k &&& 31))) &&& (-(nI m ||| ((1 : Int32) <<< (nI k &&& 31))))) = (if m = 0 then (1 : Int32) <<< (nI k &&& 31) else nI m &&& (-(nI m))) ∧ (nI m &&& (-(nI m)) = 0 ↔ m = 0) := by decide +kernel
theorem sHL_lt (srt len : Nat → Int32) (F : (Nat → Int32) → Int32) (row : Int32) : ∀ k, k ≤ 10 → ∀ i, i < 32 → bt (sHL srt len F row k).1 i = true → i < k
  | 0, _, i, hi, h => by rw [show (sHL srt len F row 0).1 = 0 from rfl, b_0] at h; exact absurd h (by decide)
  | k + 1, hk, i, hi, h => by
    have ih := sHL_lt srt len F row k (by omega) i hi
    unfold sHL at h
    split at h
    · have h : bt (if F (mkE (srt k) (len k) (nI (sHL srt len F row k).2.1) (sHL srt len F row k).2.2) = 0 then (sHL srt len F row k).1 else (sHL srt len F row k).1 ||| ((1 : Int32) <<< (nI k &&& 31))) i = true := h
      split at h
      · have := ih h; omega
      · rw [b_or, Bool.or_eq_true, b_one (by omega) hi] at h
        rcases h with h | h
        · have := ih h; omega
        · have := of_decide_eq_true h; omega
    · have := ih h; omega
theorem low_of {x : Int32} {k : Nat} (hk : k ≤ 10) (h : ∀ i, i < 32 → bt x i = true → i < k) : ∃ m, m < 1024 ∧ m < 2 ^ k ∧ x = nI m := by
  obtain ⟨m, m1, m2⟩ := small_of (x := x) (fun i h1 h2 => by
    cases q : bt x i
    · rfl
    · have := h i h2 q; omega)
  refine ⟨m, m1, ?_, m2⟩
  refine Nat.lt_pow_two_of_testBit _ (fun i hi => ?_)
  cases q : m.testBit i
  · rfl
  · exfalso
    have h32 : i < 32 := by
      rcases Nat.lt_or_ge i 32 with z | z
      · exact z
      · have : m < 2 ^ i := Nat.lt_of_lt_of_le m1 (Nat.le_trans (show 1024 ≤ 2 ^ 32 by decide) (Nat.pow_le_pow_right (by decide) z))
        rw [Nat.testBit_lt_two_pow this] at q
        exact absurd q (by decide)
    have := h i h32 (by rw [m2, bt_nI, decide_eq_true h32, q]; rfl)
    omega
theorem sBeh_cong {x y row : Int32} : ∀ k, k ≤ 32 → (∀ i, i < k → bt x i = bt y i) → sBeh x row k = sBeh y row k
  | 0, _, _ => rfl
  | k + 1, hk, h => by
    unfold sBeh
    rw [sBeh_cong k (by omega) (fun i hi => h i (by omega)), h k (by omega)]
theorem sHL_bit {srt len : Nat → Int32} {F : (Nat → Int32) → Int32} {row : Int32} {k : Nat} (hk : k < 10) : (∀ i, i < k → bt (sHL srt len F row (k + 1)).1 i = bt (sHL srt len F row k).1 i) ∧ (bt row k = true → bt (sHL srt len F row (k + 1)).1 k = !decide (F (mkE (srt k) (len k) (nI (sHL srt len F row k).2.1) (sHL srt len F row k).2.2) = 0)) := by
  have lt := sHL_lt srt len F row k (by omega)
  have nk : bt (sHL srt len F row k).1 k = false := by
    cases q : bt (sHL srt len F row k).1 k
    · rfl
    · have := lt k (by omega) q; omega
  refine ⟨fun i hi => ?_, fun hb => ?_⟩
  · show bt (if bt row k then _ else _ : Int32 × Nat × Int32).1 i = _
    split
    · show bt (if _ then _ else _) i = _
      split
      · rfl
      · rw [b_or, b_one (by omega) (by omega), decide_eq_false (by omega), Bool.or_false]
    · rfl
  · show bt (if bt row k then _ else _ : Int32 × Nat × Int32).1 k = _
    rw [if_pos hb]
    show bt (if _ then _ else _) k = _
    split
    · rename_i z
      rw [nk, decide_eq_true z]; rfl
    · rename_i z
      rw [b_or, b_one (by omega) (by omega), decide_eq_true rfl, decide_eq_false z, Bool.or_true]; rfl
theorem tkR_eq {srt len : Nat → Int32} {F : (Nat → Int32) → Int32} {kd : Nat} {row : Int32} (h3 : kd ≤ 3) : ∀ k, k ≤ 10 → (tkR srt len F (nI kd) row k).1 = (if kd = 1 then (sHL srt len F row k).1 &&& (-(sHL srt len F row k).1) else if kd = 2 then (sHL srt len F row k).1 ||| (sBeh (sHL srt len F row k).1 row k).1 else (sHL srt len F row k).1) ∧ (tkR srt len F (nI kd) row k).2.1 = (sBeh (sHL srt len F row k).1 row k).2 ∧ (((tkR srt len F (nI kd) row k).2.2 = -1 ∧ sLast row k = 0 ∧ (sHL srt len F row k).2.2 = 10) ∨ ∃ j, j < k ∧ (tkR srt len F (nI kd) row k).2.2 = nI j ∧ sLast row k = (1 : Int32) <<< (nI j &&& 31) ∧ (sHL srt len F row k).2.2 = srt j)
  | 0, _ => by
    refine ⟨?_, rfl, .inl ⟨rfl, rfl, rfl⟩⟩
    show (0 : Int32) = if kd = 1 then (0 : Int32) &&& -0 else if kd = 2 then 0 ||| 0 else 0
    split
    · rfl
    · split <;> rfl
  | k + 1, hk => by
    obtain ⟨ih1, ih2, ih3⟩ := tkR_eq (srt := srt) (len := len) (F := F) (row := row) h3 k (by omega)
    have one : nI kd = 1 ↔ kd = 1 := by rw [show (1 : Int32) = nI 1 from rfl]; exact nI_eq (by omega) (by decide)
    have two : nI kd = 2 ↔ kd = 2 := by rw [show (2 : Int32) = nI 2 from rfl]; exact nI_eq (by omega) (by decide)
    have sb := sHL_bit (srt := srt) (len := len) (F := F) (row := row) (k := k) (by omega)
    have cong := sBeh_cong (row := row) k (by omega) sb.1
    obtain ⟨m, m1, m2, m3⟩ := low_of (by omega) (sHL_lt srt len F row k (by omega))
    have lb := lowb k (by omega) m m1 m2
    cases q : bt row k
    · have e1 : tkR srt len F (nI kd) row (k + 1) = tkR srt len F (nI kd) row k := by rw [tkR, q, if_neg (by decide)]
      have e2 : sHL srt len F row (k + 1) = sHL srt len F row k := by rw [sHL, q, if_neg (by decide)]
      have e3 : sBeh (sHL srt len F row k).1 row (k + 1) = sBeh (sHL srt len F row k).1 row k := by rw [sBeh, q, if_neg (by decide)]
      have e4 : sLast row (k + 1) = sLast row k := by rw [sLast, q, if_neg (by decide)]
      rw [e1, e2, e3, e4]
      refine ⟨ih1, ih2, ?_⟩
      rcases ih3 with z | ⟨j, j1, j2⟩
      · exact .inl z
      · exact .inr ⟨j, by omega, j2⟩
    · have e3 : sBeh (sHL srt len F row (k + 1)).1 row (k + 1) = ((if (sBeh (sHL srt len F row k).1 row k).2 then (sBeh (sHL srt len F row k).1 row k).1 ||| ((1 : Int32) <<< (nI k &&& 31)) else (sBeh (sHL srt len F row k).1 row k).1), !decide (F (mkE (srt k) (len k) (nI (sHL srt len F row k).2.1) (sHL srt len F row k).2.2) = 0)) := by
        rw [sBeh, q, if_pos rfl, cong, sb.2 q]
      have e4 : sLast row (k + 1) = (1 : Int32) <<< (nI k &&& 31) := by rw [sLast, q, if_pos rfl]
      rw [e3, e4, tkR, q, if_pos rfl]
      refine ⟨?_, rfl, .inr ⟨k, by omega, rfl, rfl, by rw [sHL, q, if_pos rfl]⟩⟩
      have e2 : (sHL srt len F row (k + 1)).1 = if F (mkE (srt k) (len k) (nI (sHL srt len F row k).2.1) (sHL srt len F row k).2.2) = 0 then (sHL srt len F row k).1 else (sHL srt len F row k).1 ||| ((1 : Int32) <<< (nI k &&& 31)) := by rw [sHL, q, if_pos rfl]
      rw [e2]
      show (if F (mkE (srt k) (len k) (nI (sHL srt len F row k).2.1) (sHL srt len F row k).2.2) = 0 ∨ (nI kd = 1 ∧ ¬ (if (tkR srt len F (nI kd) row k).2.1 = true ∧ nI kd = 2 then (tkR srt len F (nI kd) row k).1 ||| ((1 : Int32) <<< (nI k &&& 31)) else (tkR srt len F (nI kd) row k).1) = 0) then (if (tkR srt len F (nI kd) row k).2.1 = true ∧ nI kd = 2 then (tkR srt len F (nI kd) row k).1 ||| ((1 : Int32) <<< (nI k &&& 31)) else (tkR srt len F (nI kd) row k).1) else (if (tkR srt len F (nI kd) row k).2.1 = true ∧ nI kd = 2 then (tkR srt len F (nI kd) row k).1 ||| ((1 : Int32) <<< (nI k &&& 31)) else (tkR srt len F (nI kd) row k).1) ||| ((1 : Int32) <<< (nI k &&& 31))) = _
      simp only [one, two, ih1, ih2]
      generalize hF : F (mkE (srt k) (len k) (nI (sHL srt len F row k).2.1) (sHL srt len F row k).2.2) = v
      generalize hX : (sHL srt len F row k).1 = X at *
      generalize hB : sBeh X row k = B at *
      by_cases k1 : kd = 1
      · have n2 : ¬ (B.2 = true ∧ kd = 2) := fun z => by omega
        rw [if_neg n2]
        simp only [if_pos k1]
        by_cases v0 : v = 0
        · rw [if_pos (.inl v0), if_pos v0]
        · rw [if_neg v0, m3, lb.1]
          by_cases m0 : m = 0
          · rw [if_pos m0, if_neg (fun z => z.elim v0 (fun y => y.2 (lb.2.mpr m0)))]
            rw [lb.2.mpr m0]; exact Int32.zero_or
          · rw [if_neg m0, if_pos (.inr ⟨k1, fun z => m0 (lb.2.mp z)⟩)]
      · have nk : ∀ x : Int32, ¬ (kd = 1 ∧ ¬ x = 0) := fun x z => k1 z.1
        generalize hb : ((1 : Int32) <<< (nI k &&& 31)) = bk at *
        have nk2 : ∀ Q : Prop, (v = 0 ∨ (kd = 1 ∧ Q)) = (v = 0) := fun Q => propext ⟨fun z => z.elim id (fun y => absurd y.1 k1), .inl⟩
        simp only [if_neg k1, nk2]
        by_cases k2 : kd = 2
        · have c2 : (B.2 = true ∧ kd = 2) = (B.2 = true) := propext ⟨fun z => z.1, fun z => ⟨z, k2⟩⟩
          simp only [if_pos k2, c2]
          refine b_ext fun i hi => ?_
          cases b2 : B.2 <;> by_cases v0 : v = 0 <;> simp only [v0, if_true, if_false, b_or, Bool.false_eq_true] <;> cases bt X i <;> cases bt B.1 i <;> cases bt bk i <;> rfl
        · have c2 : (B.2 = true ∧ kd = 2) = False := propext ⟨fun z => k2 z.2, False.elim⟩
          simp only [if_neg k2, c2, if_false]
section RC
variable {g : GG} {d : Nat} {M : MM} {la lb pa pb0 rl : Nat} {c : CD} {F : Nat → (Nat → Int32) → Int32}
theorem tX12_isShot {i : Int32} (L : Lay M la lb pa pb0 rl) (R : RCo M c F) : R0 g YX12_isShot d [.ref 130, .int i] M (Ans (b2i (sIn i (nI (cn c)))) M) := by
  have e : mi M 132 0 = nI (cn c) := R.1
  refine R0.of (by decide +kernel) (Nat.le_of_ble_eq_true rfl) rfl (qX12_isShot_0 L (fun r => ?_) (fun r1 r2 => ?_) (fun r1 r2 => ?_))
  · simp [Ans, sIn, r, b2i]
  · rw [e] at r2; simp [Ans, sIn, r1, r2, b2i]
  · rw [e] at r2; simp [Ans, sIn, r1, r2, b2i]
theorem tX12_isHall {i : Int32} (L : Lay M la lb pa pb0 rl) (R : RCo M c F) : R0 g YX12_isHall d [.ref 130, .int i] M (Ans (b2i (sIn i (nI (ch c)))) M) := by
  have e : mi M 132 1 = nI (ch c) := R.2.1
  refine R0.of (by decide +kernel) (Nat.le_of_ble_eq_true rfl) rfl (qX12_isHall_0 L (fun r => ?_) (fun r1 r2 => ?_) (fun r1 r2 => ?_))
  · simp [Ans, sIn, r, b2i]
  · rw [e] at r2; simp [Ans, sIn, r1, r2, b2i]
  · rw [e] at r2; simp [Ans, sIn, r1, r2, b2i]
def wIn (i a b : Int32) : Bool := decide (¬ i < a) && decide (¬ b < i)
theorem tX12_within {i a b : Int32} : R0 g YX12_within d [.int i, .int a, .int b] M (Ans (b2i (wIn i a b)) M) := by
  refine R0.of (by decide +kernel) (Nat.le_of_ble_eq_true rfl) rfl (qX12_within_0 (fun r => ?_) (fun r1 r2 => ?_) (fun r1 r2 => ?_))
  · simp [Ans, wIn, r, b2i]
  · simp [Ans, wIn, r1, r2, b2i]
  · simp [Ans, wIn, r1, r2, b2i]
theorem tX12_bits {x : Int32} : R0 g YX12_bits d [.int x] M (Ans (sBits x 10) M) := by
  refine R0.of (by decide +kernel) (Nat.le_of_ble_eq_true rfl) rfl (qX12_bits_0 ?_)
  have key := up0 (p := fun i => E0 g YX12_bits d 4 [(0, .int x), (1, .int (sBits x i)), (2, .int (nI i))] [] M (Ans (sBits x 10) M)) 10 (qX12_bits_4 (fun _ => ⟨rfl, rfl⟩) (fun r => absurd (by decide) r)) (fun i hi ih => qX12_bits_4 (fun r => absurd r (ngl 10 rfl (by decide) hi)) (fun _ => by rw [nI_1]; exact ih))
  exact key
theorem tX12_allShots (L : Lay M la lb pa pb0 rl) (R : RCo M c F) : R0 g YX12_allShots d [.ref 130] M (Ans (cFilm c) M) := by
  refine R0.of (by decide +kernel) (Nat.le_of_ble_eq_true rfl) rfl (qX12_allShots_0 L ⟨?_, rfl⟩)
  rw [R.1]; rfl
theorem tX12_minutesOf {x : Int32} (L : Lay M la lb pa pb0 rl) (R : RCo M c F) (O : COk c F) : R0 g YX12_minutesOf d [.ref 130, .int x] M (Ans (cMin c x) M) := by
  have h10 := O.1
  have e : mi M 132 0 = nI (cn c) := R.1
  refine R0.of (by decide +kernel) (Nat.le_of_ble_eq_true rfl) rfl (qX12_minutesOf_0 ?_)
  have key := up0 (p := fun i => E0 g YX12_minutesOf d 4 [(0, .ref 130), (1, .int x), (2, .int (sMin (clen c) x i)), (3, .int (nI i))] [] M (Ans (cMin c x) M)) (cn c) (qX12_minutesOf_4 L (fun r => absurd (by rw [e]; exact Int32.le_refl _) r) (fun _ => ⟨rfl, rfl⟩) (fun r => absurd (by rw [e]; exact Int32.le_refl _) r) (fun r => absurd (by rw [e]; exact Int32.le_refl _) r)) (fun i hi ih => ?_)
  · exact key
  · have lt : ¬ mi M 132 0 ≤ nI i := by rw [e, nI_leI (by omega) (by omega)]; omega
    have eM : sMin (clen c) x (i + 1) = sMin (clen c) x i + (if bt x i then clen c i else 0) := rfl
    rw [eM, ← nI_1] at ih
    refine qX12_minutesOf_4 L (fun _ _ => vi (by omega) (by decide)) (fun r => absurd r lt) (fun _ r => ?_) (fun _ r => ?_)
    · rw [bit_f x (by omega)] at r
      rw [if_neg (by rw [r]; decide)] at ih
      exact ih
    · rw [bit_t x (by omega)] at r
      rw [if_pos r] at ih
      rw [nI_clamp (by omega), (R.2.2.1 i hi).2.1]
      exact ih
theorem tX12_makesSense {x : Int32} (L : Lay M la lb pa pb0 rl) (R : RCo M c F) (O : COk c F) : R0 g YX12_makesSense d [.ref 130, .int x] M (Ans (b2i (cSen c x)) M) := by
  have h10 := O.1
  have e : mi M 132 0 = nI (cn c) := R.1
  refine R0.of (by decide +kernel) (Nat.le_of_ble_eq_true rfl) rfl (qX12_makesSense_0 ?_)
  have key := up0 (p := fun i => sSn (cnds c) x (cn c - i) i = cSen c x → E0 g YX12_makesSense d 2 [(0, .ref 130), (1, .int x), (2, .int (nI i))] [] M (Ans (b2i (cSen c x)) M)) (cn c) (fun hs => qX12_makesSense_2 L (fun r => absurd (by rw [e]; exact Int32.le_refl _) r) (fun _ => by rw [← hs, Nat.sub_self]; exact ⟨rfl, rfl⟩) (fun r => absurd (by rw [e]; exact Int32.le_refl _) r) (fun r => absurd (by rw [e]; exact Int32.le_refl _) r) (fun r => absurd (by rw [e]; exact Int32.le_refl _) r)) (fun i hi ih hs => ?_)
  · exact key rfl
  · have lt : ¬ mi M 132 0 ≤ nI i := by rw [e, nI_leI (by omega) (by omega)]; omega
    obtain ⟨j, hj⟩ : ∃ j, cn c - i = j + 1 := ⟨cn c - i - 1, by omega⟩
    have hj2 : cn c - (i + 1) = j := by omega
    rw [hj2] at ih
    rw [hj, sSn] at hs
    rw [← nI_1] at ih
    refine qX12_makesSense_2 L (fun _ _ => vi (by omega) (by decide)) (fun r => absurd r lt) (fun _ r => ?_) (fun _ r1 r2 => ?_) (fun _ r1 r2 => ?_)
    · rw [bit_f x (by omega)] at r
      rw [r] at hs
      exact ih (by rw [← hs]; rfl)
    · rw [nI_clamp (by omega), (R.2.2.1 i hi).2.2] at r2
      have : sOkN (cnds c i) x i = true := decide_eq_true r2
      rw [this, Bool.or_true, Bool.true_and] at hs
      exact ih hs
    · rw [bit_t x (by omega)] at r1
      rw [nI_clamp (by omega), (R.2.2.1 i hi).2.2] at r2
      have : sOkN (cnds c i) x i = false := decide_eq_false r2
      rw [this, r1] at hs
      rw [← hs]
      exact ⟨rfl, rfl⟩
theorem tX12_hates {hl k : Nat} {x y : Int32} (L : Lay M la lb pa pb0 rl) (R : RCo M c F) (O : COk c F) (hh : hl < ch c) (hk : k < cn c) (hd : 4 ≤ d) : R0 g YX12_hates d [.ref 130, .int (nI hl), .int (nI k), .int x, .int y] M (fun rv M1 => rv = some (.int (b2i (!decide (F hl (mkE (csrt c k) (clen c k) x y) = 0)))) ∧ Fr inE M M1) := by
  have h10 := O.1
  have h6 := O.2.1
  have ek : (nI k).toNatClampNeg = k := nI_clamp (by omega)
  have hv : vp_in (nI k) 20 := vi (by omega) (by decide)
  have F4 : Fr inE M (wi (wi (wi (wi M 153 1 (csrt c k)) 153 2 (clen c k)) 153 3 x) 153 4 y) := (((Fr.rf.wi (by omega)).wi (by omega)).wi (by omega)).wi (by omega)
  refine R0.of (by decide +kernel) (Nat.le_of_ble_eq_true rfl) rfl (qX12_hates_0 (M1 := wi M 153 1 (csrt c k)) (M2 := wi (wi M 153 1 (csrt c k)) 153 2 (clen c k)) L (by rw [ek, (R.2.2.1 k hk).1]) (by rw [ek, wi_at, if_neg (by omega), (R.2.2.1 k hk).2.1]) rfl rfl hv hv (K0.set (d1 := d - 1) (by omega) (tX12_worked (F4.lay L) (by omega) ((R.2.2.2.2 hl hh).fr F4 (by omega) (by omega) (by omega)) (by omega)) ?_))
  rintro rv M2 ⟨rfl, F2⟩
  have F02 : Fr inE M M2 := F4.trans (F2.mono (fun b hb => by omega))
  have ev : F hl (mi (wi (wi (wi (wi M 153 1 (csrt c k)) 153 2 (clen c k)) 153 3 x) 153 4 y) 153) = F hl (mkE (csrt c k) (clen c k) x y) := by
    refine O.2.2.2.2.2.1 hl hh _ _ (fun j j0 j4 => ?_)
    match j, j0, j4 with
    | 1, _, _ => rfl
    | 2, _, _ => rfl
    | 3, _, _ => rfl
    | 4, _, _ => rfl
  rw [ev]
  refine qX12_hates_44 (fun r => ⟨?_, F02⟩) (fun r => ⟨?_, F02⟩)
  · rw [decide_eq_true r]; rfl
  · rw [decide_eq_false r]; rfl
theorem tX12_takesOut {hl : Nat} {row : Int32} (L : Lay M la lb pa pb0 rl) (R : RCo M c F) (O : COk c F) (hh : hl < ch c) (hd : 5 ≤ d) : R0 g YX12_takesOut d [.ref 130, .int (nI hl), .int row] M (fun rv M1 => rv = some (.int (cTk c hl row)) ∧ Fr inE M M1) := by
  have h10 := O.1
  have h6 := O.2.1
  have eh : (nI hl).toNatClampNeg = hl := nI_clamp (by omega)
  have hv : vp_in (nI hl) 12 := vi (by omega) (by decide)
  obtain ⟨kd, kd3, ekd⟩ := O.2.2.2.2.1 hl hh
  refine R0.of (by decide +kernel) (Nat.le_of_ble_eq_true rfl) rfl (qX12_takesOut_0 ?_)
  have law := sHat_law (row := row) O.2.2.1 h10 h6 hh O.2.2.2.1
  have key := up0 (p := fun i => ∀ M1, Fr inE M M1 → E0 g YX12_takesOut d 14 [(0, .ref 130), (1, .int (nI hl)), (2, .int row), (3, .int (tkR (csrt c) (clen c) (F hl) (nI kd) row i).1), (4, .int (nI (sHL (csrt c) (clen c) (F hl) row i).2.1)), (5, .int (tkR (csrt c) (clen c) (F hl) (nI kd) row i).2.2), (6, .int (b2i (tkR (csrt c) (clen c) (F hl) (nI kd) row i).2.1)), (7, .int (nI i))] [] M1 (fun rv M1 => rv = some (.int (cTk c hl row)) ∧ Fr inE M M1)) (cn c) (fun M1 F1 => ?_) (fun i hi ih M1 F1 => ?_)
  · exact key M Fr.rf
  · have R1 := R.fr F1 (fun b hb => by omega)
    have e : mi M1 132 0 = nI (cn c) := R1.1
    have ge : mi M1 132 0 ≤ nI (cn c) := by rw [e]; exact Int32.le_refl _
    have e8 : mi M1 138 (nI hl).toNatClampNeg = nI kd := by rw [eh, R1.2.2.2.1 hl hh, ekd]
    obtain ⟨t1, t2, t3⟩ := tkR_eq (srt := csrt c) (len := clen c) (F := F hl) (row := row) kd3 (cn c) h10
    have ct : cTk c hl row = if kd = 1 then (sHL (csrt c) (clen c) (F hl) row (cn c)).1 &&& (-(sHL (csrt c) (clen c) (F hl) row (cn c)).1) else if kd = 2 then (sHL (csrt c) (clen c) (F hl) row (cn c)).1 ||| (sBeh (sHL (csrt c) (clen c) (F hl) row (cn c)).1 row (cn c)).1 else if kd = 3 then (sHL (csrt c) (clen c) (F hl) row (cn c)).1 &&& (sLast row (cn c) ^^^ (-1)) else (sHL (csrt c) (clen c) (F hl) row (cn c)).1 := by
      unfold cTk sTk
      rw [(law (cn c) (Nat.le_refl _)).1, ekd, nI_toInt (by omega)]
      have z1 : ((kd : Int) = 1) ↔ kd = 1 := by omega
      have z2 : ((kd : Int) = 2) ↔ kd = 2 := by omega
      have z3 : ((kd : Int) = 3) ↔ kd = 3 := by omega
      simp only [z1, z2, z3]
    have three : nI kd = 3 ↔ kd = 3 := by rw [show (3 : Int32) = nI 3 from rfl]; exact nI_eq (by omega) (by decide)
    refine qX12_takesOut_14 (F1.lay L) (fun _ => hv) (fun z => absurd ge z) (fun _ r => ⟨?_, F1⟩) (fun _ r1 r2 => ⟨?_, F1⟩) (fun _ r1 r2 => ⟨?_, F1⟩) (fun z => absurd ge z) (fun z => absurd ge z) (fun z => absurd ge z)
    · rw [e8, three] at r
      rw [t1, ct]
      by_cases k1 : kd = 1
      · rw [if_pos k1, if_pos k1]
      · by_cases k2 : kd = 2
        · rw [if_neg k1, if_neg k1, if_pos k2, if_pos k2]
        · rw [if_neg k1, if_neg k1, if_neg k2, if_neg k2, if_neg r]
    · rw [e8, three] at r1
      rcases t3 with ⟨-, z, -⟩ | ⟨j, j1, j2, -⟩
      · rw [t1, ct, z, if_neg (by omega), if_neg (by omega), if_neg (by omega), if_neg (by omega), if_pos r1]
        have : ((0 : Int32) ^^^ (-1)) = -1 := by decide
        rw [this]
        have : ∀ x : Int32, x = x &&& (-1) := fun x => b_ext fun i hi => by rw [b_and, b_m1 i hi, Bool.and_true]
        exact congrArg (fun z => some (Value.int z)) (this _)
      · rw [j2] at r2
        exact absurd r2 (nI_pos (by omega))
    · rw [e8, three] at r1
      rcases t3 with ⟨z, -⟩ | ⟨j, j1, j2, j3, -⟩
      · rw [z] at r2; exact absurd (by decide) r2
      · rw [t1, ct, j2, j3, if_neg (by omega), if_neg (by omega), if_neg (by omega), if_neg (by omega), if_pos r1]
  · have R1 := R.fr F1 (fun b hb => by omega)
    have e : mi M1 132 0 = nI (cn c) := R1.1
    have lt : ¬ mi M1 132 0 ≤ nI i := by rw [e, nI_leI (by omega) (by omega)]; omega
    have e8 : mi M1 138 (nI hl).toNatClampNeg = nI kd := by rw [eh, R1.2.2.2.1 hl hh, ekd]
    obtain ⟨-, -, t3⟩ := tkR_eq (srt := csrt c) (len := clen c) (F := F hl) (row := row) kd3 i (by omega)
    have L1 := F1.lay L
    cases q : bt row i
    · have e1 : tkR (csrt c) (clen c) (F hl) (nI kd) row (i + 1) = tkR (csrt c) (clen c) (F hl) (nI kd) row i := by rw [tkR, q, if_neg (by decide)]
      have e2 : sHL (csrt c) (clen c) (F hl) row (i + 1) = sHL (csrt c) (clen c) (F hl) row i := by rw [sHL, q, if_neg (by decide)]
      rw [e1, e2] at ih
      have bz : ((row >>> (nI i &&& 31)) &&& 1) = 0 := (bit_z row (by omega)).mpr q
      exact qX12_takesOut_14 L1 (fun z => absurd z lt) (fun _ z => absurd bz z) (fun z => absurd z lt) (fun z => absurd z lt) (fun z => absurd z lt) (fun _ z => absurd bz z) (fun _ z => absurd bz z) (fun _ _ => by rw [nI_1]; exact ih M1 F1)
    · have bz : ¬ ((row >>> (nI i &&& 31)) &&& 1) = 0 := fun z => by rw [bit_z row (by omega), q] at z; exact absurd z (by decide)
      -- behind hates
      have after : ∀ y, y = (sHL (csrt c) (clen c) (F hl) row i).2.2 → K0 g YX12_takesOut YX12_hates d 63 [.ref 130, .int (nI hl), .int (nI i), .int (nI (sHL (csrt c) (clen c) (F hl) row i).2.1), .int y] [(0, .ref 130), (1, .int (nI hl)), (2, .int row), (3, .int (tkR (csrt c) (clen c) (F hl) (nI kd) row i).1), (4, .int (nI (sHL (csrt c) (clen c) (F hl) row i).2.1)), (6, .int (b2i (tkR (csrt c) (clen c) (F hl) (nI kd) row i).2.1)), (7, .int (nI i))] [] M1 (fun rv M1 => rv = some (.int (cTk c hl row)) ∧ Fr inE M M1) := fun y hy => by
        subst hy
        refine K0.set (d1 := d - 1) (by omega) (tX12_hates L1 R1 O hh hi (by omega)) ?_
        rintro rv M2 ⟨rfl, F2⟩
        have F02 := F1.trans F2
        have e8 : mi M2 138 (nI hl).toNatClampNeg = nI kd := by rw [F2.i (show ¬ inE 138 by omega)]; exact e8
        have ih2 := ih M2 F02
        have e2 : (sHL (csrt c) (clen c) (F hl) row (i + 1)).2.1 = (sHL (csrt c) (clen c) (F hl) row i).2.1 + 1 := by rw [sHL, q, if_pos rfl]
        have e1 : tkR (csrt c) (clen c) (F hl) (nI kd) row (i + 1) = ((if F hl (mkE (csrt c i) (clen c i) (nI (sHL (csrt c) (clen c) (F hl) row i).2.1) (sHL (csrt c) (clen c) (F hl) row i).2.2) = 0 ∨ (nI kd = 1 ∧ ¬ (if (tkR (csrt c) (clen c) (F hl) (nI kd) row i).2.1 = true ∧ nI kd = 2 then (tkR (csrt c) (clen c) (F hl) (nI kd) row i).1 ||| ((1 : Int32) <<< (nI i &&& 31)) else (tkR (csrt c) (clen c) (F hl) (nI kd) row i).1) = 0) then (if (tkR (csrt c) (clen c) (F hl) (nI kd) row i).2.1 = true ∧ nI kd = 2 then (tkR (csrt c) (clen c) (F hl) (nI kd) row i).1 ||| ((1 : Int32) <<< (nI i &&& 31)) else (tkR (csrt c) (clen c) (F hl) (nI kd) row i).1) else (if (tkR (csrt c) (clen c) (F hl) (nI kd) row i).2.1 = true ∧ nI kd = 2 then (tkR (csrt c) (clen c) (F hl) (nI kd) row i).1 ||| ((1 : Int32) <<< (nI i &&& 31)) else (tkR (csrt c) (clen c) (F hl) (nI kd) row i).1) ||| ((1 : Int32) <<< (nI i &&& 31))), !decide (F hl (mkE (csrt c i) (clen c i) (nI (sHL (csrt c) (clen c) (F hl) row i).2.1) (sHL (csrt c) (clen c) (F hl) row i).2.2) = 0), nI i) := by rw [tkR, q, if_pos rfl]
        rw [e1, e2, ← nI_1, ← nI_1] at ih2
        generalize hV : F hl (mkE (csrt c i) (clen c i) (nI (sHL (csrt c) (clen c) (F hl) row i).2.1) (sHL (csrt c) (clen c) (F hl) row i).2.2) = V at *
        generalize hX : tkR (csrt c) (clen c) (F hl) (nI kd) row i = X at *
        have V0 : b2i (!decide (V = 0)) = 0 ↔ V = 0 := by rw [b2i_z]; simp
        have b6 : b2i X.2.1 = 0 → X.2.1 = false := b2i_z.mp
        have fin : ∀ z, z = (if V = 0 ∨ (nI kd = 1 ∧ ¬ (if X.2.1 = true ∧ nI kd = 2 then X.1 ||| ((1 : Int32) <<< (nI i &&& 31)) else X.1) = 0) then (if X.2.1 = true ∧ nI kd = 2 then X.1 ||| ((1 : Int32) <<< (nI i &&& 31)) else X.1) else (if X.2.1 = true ∧ nI kd = 2 then X.1 ||| ((1 : Int32) <<< (nI i &&& 31)) else X.1) ||| ((1 : Int32) <<< (nI i &&& 31))) → E0 g YX12_takesOut d 14 [(0, .ref 130), (1, .int (nI hl)), (2, .int row), (3, .int z), (4, .int (nI (sHL (csrt c) (clen c) (F hl) row i).2.1 + 1)), (5, .int (nI i)), (6, .int (b2i (!decide (V = 0)))), (7, .int (nI i + 1))] [] M2 (fun rv M1 => rv = some (.int (cTk c hl row)) ∧ Fr inE M M1) := fun z hz => by rw [hz]; exact ih2
        have ne : nI kd = 2 → ¬ nI kd = 1 := fun z y => by rw [z] at y; exact absurd y (by decide)
        refine qX12_takesOut_63 (F02.lay L) (fun _ _ => hv) (fun _ => hv) (fun _ _ _ => hv) (fun _ _ _ => hv) (fun r1 r2 => ?_) (fun r1 r2 r3 => ?_) (fun r1 r2 r3 r4 => ?_) (fun r1 r2 r3 r4 => ?_) (fun r1 r2 r3 => ?_) (fun r1 r2 r3 r4 => ?_) (fun r1 r2 r3 r4 r5 => ?_) (fun r1 r2 r3 r4 r5 => ?_) (fun r1 r2 r3 => ?_) (fun r1 r2 r3 r4 => ?_) (fun r1 r2 r3 r4 r5 => ?_) (fun r1 r2 r3 r4 r5 => ?_) <;> rw [e8] at *
        · exact fin _ (by simp [b6 r1, V0.mp r2])
        · exact fin _ (by simp [b6 r1, show ¬ V = 0 from fun z => r2 (V0.mpr z), r3])
        · exact fin _ (by simp [b6 r1, show ¬ V = 0 from fun z => r2 (V0.mpr z), r3, r4])
        · exact fin _ (by simp [b6 r1, show ¬ V = 0 from fun z => r2 (V0.mpr z), r3, r4])
        · exact fin _ (by simp [r2, V0.mp r3])
        · exact fin _ (by simp [r2, show ¬ V = 0 from fun z => r3 (V0.mpr z), r4])
        · exact fin _ (by simp [r2, show ¬ V = 0 from fun z => r3 (V0.mpr z), r4, r5, show ¬ nI kd = 2 from fun z => ne z r4])
        · exact fin _ (by simp [r2, show ¬ V = 0 from fun z => r3 (V0.mpr z), r4, r5, show ¬ nI kd = 2 from fun z => ne z r4])
        · exact fin _ (by simp [b2i_n.mp r1, r2, V0.mp r3])
        · exact fin _ (by simp [b2i_n.mp r1, r2, show ¬ V = 0 from fun z => r3 (V0.mpr z), r4])
        · exact absurd r4 (ne r2)
        · exact absurd r4 (ne r2)
      rcases t3 with ⟨t3, -, t5⟩ | ⟨j, j1, j2, -, j4⟩
      · have neg : ¬ (0 : Int32) ≤ (tkR (csrt c) (clen c) (F hl) (nI kd) row i).2.2 := by rw [t3]; decide
        exact qX12_takesOut_14 L1 (fun z => absurd z lt) (fun _ _ z => absurd z neg) (fun z => absurd z lt) (fun z => absurd z lt) (fun z => absurd z lt) (fun _ _ z => absurd z neg) (fun _ _ _ => after 10 t5.symm) (fun _ z => absurd z bz)
      · have pos : (0 : Int32) ≤ (tkR (csrt c) (clen c) (F hl) (nI kd) row i).2.2 := by rw [j2, show (0 : Int32) = nI 0 from rfl, nI_leI (by decide) (by omega)]; omega
        have yj : mi M1 135 (tkR (csrt c) (clen c) (F hl) (nI kd) row i).2.2.toNatClampNeg = (sHL (csrt c) (clen c) (F hl) row i).2.2 := by rw [j2, nI_clamp (by omega), (R1.2.2.1 j (by omega)).1, j4]
        exact qX12_takesOut_14 L1 (fun z => absurd z lt) (fun _ _ _ => by rw [j2]; exact vi (by omega) (by decide)) (fun z => absurd z lt) (fun z => absurd z lt) (fun z => absurd z lt) (fun _ _ _ => after _ yj) (fun _ _ z => absurd pos z) (fun _ z => absurd z bz)
end RC
