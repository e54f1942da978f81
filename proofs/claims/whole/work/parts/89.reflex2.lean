/-! ===== the reference: the next token ===== -/
theorem lexT_of {n : Nat} {t : Nat → Nat} {p : Nat} : lexT n t p = lexA n t (skipB t (n - p) p) := rfl
theorem min8 {a b : Nat} (h : a ≤ b) : min a b = a := Nat.min_eq_left h
section NT
variable {g : GG} {d : Nat} {M : MM} {la lb pa pb0 rl n p : Nat} {t : Nat → Nat}
/-- behind a run of letters or digits -/
theorem nt_word (hd : 1 ≤ d) {a : Nat} (ha : a < n) (hl : isLc (t a) = true) {B : MM} (L : Lay B la lb pa pb0 rl) (R : RRd B n t) : ∀ j q M1, q + j = n → a ≤ q → TkF B M1 → mi M1 130 4 = nI q → mi M1 130 5 = nI a → (∀ i, a ≤ i → i < q → isLc (t i) = true) → mj M1 130 7 = lJ (hRx 27 (ltR t a (min (q - a) 8))) → runW isLc t j q = runW isLc t (n - a) a → E0 g YX12_nextToken d 109 [(0, .ref 130)] [] M1 (fun rv M2 => rv = none ∧ TkR M2 (lexA n t a) ∧ TkF B M2) := by
  have n1000 := R.1
  -- the end of the word
  have fin : ∀ q M1, q ≤ n → a ≤ q → TkF B M1 → mi M1 130 4 = nI q → mi M1 130 5 = nI a → mj M1 130 7 = lJ (hRx 27 (ltR t a (min (q - a) 8))) → q = runW isLc t (n - a) a → ((mi M1 130 4 - mi M1 130 5) ≤ 8 → (none : Option Value) = none ∧ TkR (wi M1 130 6 1) (lexA n t a) ∧ TkF B (wi M1 130 6 1)) ∧ (¬ (mi M1 130 4 - mi M1 130 5) ≤ 8 → (none : Option Value) = none ∧ TkR (wi M1 130 6 4) (lexA n t a) ∧ TkF B (wi M1 130 6 4)) := fun q M1 hq haq F1 e4 e5 e7 er => by
    have e8 : (mi M1 130 4 - mi M1 130 5) ≤ 8 ↔ q - a ≤ 8 := by rw [e4, e5, nI_sb haq, show (8 : Int32) = nI 8 from rfl]; exact nI_leI (by omega) (by decide)
    have eL : lexA n t a = ((if 8 < q - a then 4 else 1), a, q, ltR t a (q - a), 0, 0) := by unfold lexA; rw [if_pos ha, if_pos hl, ← er]
    rw [e8, eL]
    refine ⟨fun z => ⟨rfl, ⟨?_, ?_, ?_, fun _ => ?_, fun y => ?_⟩, F1.w (by omega)⟩, fun z => ⟨rfl, ⟨?_, ?_, ?_, fun y => ?_, fun y => ?_⟩, F1.w (by omega)⟩⟩
    · rw [wi_at, if_neg (by omega)]; exact e5
    · rw [wi_at, if_neg (by omega)]; exact e4
    · rw [wi_at, if_pos ⟨rfl, rfl⟩]; show (1 : Int32) = nI (if 8 < q - a then 4 else 1); rw [if_neg (by omega)]; rfl
    · show mj M1 130 7 = lJ (hRx 27 (ltR t a (q - a)))
      rw [e7, min8 z]
    · have y : (if 8 < q - a then 4 else 1) = 2 := y
      split at y <;> omega
    · rw [wi_at, if_neg (by omega)]; exact e5
    · rw [wi_at, if_neg (by omega)]; exact e4
    · rw [wi_at, if_pos ⟨rfl, rfl⟩]; show (4 : Int32) = nI (if 8 < q - a then 4 else 1); rw [if_pos (by omega)]; rfl
    · have y : (if 8 < q - a then 4 else 1) = 1 := y
      rw [if_pos (by omega)] at y; omega
    · have y : (if 8 < q - a then 4 else 1) = 2 := y
      split at y <;> omega
  intro j
  induction j with
  | zero =>
    intro q M1 hq haq F1 e4 e5 hall e7 er
    have hqn : q = n := by omega
    have er : q = runW isLc t (n - a) a := er
    obtain ⟨f1, f2⟩ := fin q M1 (by omega) haq F1 e4 e5 e7 er
    refine qX12_nextToken_109 (F1.1.lay L) ?_
    rw [e4]
    refine K0.ans (d1 := d - 1) (by omega) (tX12_signAt (F1.1.lay L) (F1.rd R) (by omega)) ?_
    rw [if_neg (by omega)]
    exact qX12_nextToken_117 (F1.1.lay L) rfl rfl (fun _ z => f1 z) (fun _ z => f2 z) (fun z => absurd (by decide) z)
  | succ j ih =>
    intro q M1 hq haq F1 e4 e5 hall e7 er
    have hqn : q < n := by omega
    have L1 := F1.1.lay L
    have R1 := F1.rd R
    have tq := (R1.2.2 q hqn).2
    have l97 : nI (t q) < 97 ↔ t q < 97 := by rw [show (97 : Int32) = nI 97 from rfl]; exact nI_ltI (by omega) (by decide)
    have l122 : (122 : Int32) < nI (t q) ↔ 122 < t q := by rw [show (122 : Int32) = nI 122 from rfl]; exact nI_ltI (by decide) (by omega)
    have sg : ∀ {pc : Nat} {st : List Value} {P : Option Value → MM → Prop}, E0 g YX12_nextToken d pc [(0, .ref 130)] (.int (nI (t q)) :: st) M1 P → K0 g YX12_nextToken YX12_signAt d pc [.ref 130, .int (mi M1 130 4)] [(0, .ref 130)] st M1 P := fun k => by
      rw [e4]
      refine K0.ans (d1 := d - 1) (by omega) (tX12_signAt L1 R1 (by omega)) ?_
      rw [if_pos hqn]; exact k
    rw [runW] at er
    by_cases hq2 : isLc (t q) = true
    · have hb : 97 ≤ t q ∧ t q ≤ 122 := by unfold isLc at hq2; simpa using hq2
      rw [if_pos hq2] at er
      have hall2 : ∀ i, a ≤ i → i < q + 1 → isLc (t i) = true := fun i h1 h2 => by
        by_cases e : i = q
        · rw [e]; exact hq2
        · exact hall i h1 (by omega)
      have e8 : (8 : Int32) ≤ (mi M1 130 4 - mi M1 130 5) ↔ 8 ≤ q - a := by rw [e4, e5, nI_sb haq, show (8 : Int32) = nI 8 from rfl]; exact nI_leI (by decide) (by omega)
      refine qX12_nextToken_109 L1 (sg (qX12_nextToken_117 L1 rfl rfl (fun z => absurd (l97.mp z) (by omega)) (fun z => absurd (l97.mp z) (by omega)) (fun _ => sg (qX12_nextToken_130 L1 rfl rfl rfl (fun z => absurd (l122.mp z) (by omega)) (fun z => absurd (l122.mp z) (by omega)) (fun _ r => ?_) (fun _ r => sg (qX12_nextToken_166 L1 rfl rfl (L1.s (a := 130) rfl (by decide)) ?_))))))
      · rw [e8] at r
        refine ih (q + 1) _ (by omega) (by omega) (F1.w (by omega)) ?_ ?_ hall2 ?_ er
        · rw [wi_at, if_pos ⟨rfl, rfl⟩, e4, nI_1]
        · rw [wi_at, if_neg (by omega)]; exact e5
        · show mj M1 130 7 = _
          rw [e7, Nat.min_eq_right r, Nat.min_eq_right (by omega)]
      · rw [e8] at r
        refine ih (q + 1) _ (by omega) (by omega) (F1.wl.w (by omega)) ?_ ?_ hall2 ?_ er
        · rw [wi_at, if_pos ⟨rfl, rfl⟩, e4, nI_1]
        · rw [wi_at, if_neg (by omega)]; exact e5
        · rw [wi_j, wj_at, if_pos ⟨rfl, rfl⟩, e7, Nat.min_eq_left (by omega), Nat.min_eq_left (by omega), show q + 1 - a = (q - a) + 1 by omega, ltR, hRx, show a + (q - a) = q by omega]
          exact wordR (by rw [ltR_len]; omega) (ltR_ok (fun i hi => hall (a + i) (by omega) (by omega))) hb.1 hb.2
    · rw [if_neg hq2] at er
      obtain ⟨f1, f2⟩ := fin q M1 (by omega) haq F1 e4 e5 e7 er
      have hb : t q < 97 ∨ 122 < t q := by
        unfold isLc at hq2
        simp at hq2
        omega
      refine qX12_nextToken_109 L1 (sg (qX12_nextToken_117 L1 rfl rfl (fun _ z => f1 z) (fun _ z => f2 z) (fun w => sg (qX12_nextToken_130 L1 rfl rfl rfl (fun _ z => f1 z) (fun _ z => f2 z) (fun v => ?_) (fun v => ?_)))))
      · rw [l97] at w; rw [l122] at v; omega
      · rw [l97] at w; rw [l122] at v; omega
theorem nt_num (hd : 1 ≤ d) {a : Nat} (ha : a < n) (hnl : ¬ isLc (t a) = true) (hl : isDc (t a) = true) {B : MM} (L : Lay B la lb pa pb0 rl) (R : RRd B n t) : ∀ j q M1, q + j = n → a ≤ q → TkF B M1 → mi M1 130 4 = nI q → mi M1 130 5 = nI a → (∀ i, a ≤ i → i < q → isDc (t i) = true) → mi M1 130 8 = nI (nuR t a (min (q - a) 4)) → runW isDc t j q = runW isDc t (n - a) a → E0 g YX12_nextToken d 224 [(0, .ref 130)] [] M1 (fun rv M2 => rv = none ∧ TkR M2 (lexA n t a) ∧ TkF B M2) := by
  have n1000 := R.1
  have fin : ∀ q M1, q ≤ n → a ≤ q → TkF B M1 → mi M1 130 4 = nI q → mi M1 130 5 = nI a → mi M1 130 8 = nI (nuR t a (min (q - a) 4)) → q = runW isDc t (n - a) a → ((mi M1 130 4 - mi M1 130 5) ≤ 4 → (none : Option Value) = none ∧ TkR (wi M1 130 6 2) (lexA n t a) ∧ TkF B (wi M1 130 6 2)) ∧ (¬ (mi M1 130 4 - mi M1 130 5) ≤ 4 → (none : Option Value) = none ∧ TkR (wi M1 130 6 4) (lexA n t a) ∧ TkF B (wi M1 130 6 4)) := fun q M1 hq haq F1 e4 e5 e7 er => by
    have e8 : (mi M1 130 4 - mi M1 130 5) ≤ 4 ↔ q - a ≤ 4 := by rw [e4, e5, nI_sb haq, show (4 : Int32) = nI 4 from rfl]; exact nI_leI (by omega) (by decide)
    have eL : lexA n t a = ((if 4 < q - a then 4 else 2), a, q, [], nuR t a (q - a), 0) := by unfold lexA; rw [if_pos ha, if_neg hnl, if_pos hl, ← er]
    rw [e8, eL]
    refine ⟨fun z => ⟨rfl, ⟨?_, ?_, ?_, fun y => ?_, fun _ => ?_⟩, F1.w (by omega)⟩, fun z => ⟨rfl, ⟨?_, ?_, ?_, fun y => ?_, fun y => ?_⟩, F1.w (by omega)⟩⟩
    · rw [wi_at, if_neg (by omega)]; exact e5
    · rw [wi_at, if_neg (by omega)]; exact e4
    · rw [wi_at, if_pos ⟨rfl, rfl⟩]; show (2 : Int32) = nI (if 4 < q - a then 4 else 2); rw [if_neg (by omega)]; rfl
    · have y : (if 4 < q - a then 4 else 2) = 1 := y
      split at y <;> omega
    · rw [wi_at, if_neg (by omega), e7, min8 z]
    · rw [wi_at, if_neg (by omega)]; exact e5
    · rw [wi_at, if_neg (by omega)]; exact e4
    · rw [wi_at, if_pos ⟨rfl, rfl⟩]; show (4 : Int32) = nI (if 4 < q - a then 4 else 2); rw [if_pos (by omega)]; rfl
    · have y : (if 4 < q - a then 4 else 2) = 1 := y
      split at y <;> omega
    · have y : (if 4 < q - a then 4 else 2) = 2 := y
      rw [if_pos (by omega)] at y; omega
  intro j
  induction j with
  | zero =>
    intro q M1 hq haq F1 e4 e5 hall e7 er
    have er : q = runW isDc t (n - a) a := er
    obtain ⟨f1, f2⟩ := fin q M1 (by omega) haq F1 e4 e5 e7 er
    refine qX12_nextToken_224 (F1.1.lay L) ?_
    rw [e4]
    refine K0.ans (d1 := d - 1) (by omega) (tX12_signAt (F1.1.lay L) (F1.rd R) (by omega)) ?_
    rw [if_neg (by omega)]
    exact qX12_nextToken_232 (F1.1.lay L) rfl rfl (fun _ z => f1 z) (fun _ z => f2 z) (fun z => absurd (by decide) z)
  | succ j ih =>
    intro q M1 hq haq F1 e4 e5 hall e7 er
    have hqn : q < n := by omega
    have L1 := F1.1.lay L
    have R1 := F1.rd R
    have tq := (R1.2.2 q hqn).2
    have l97 : nI (t q) < 48 ↔ t q < 48 := by rw [show (48 : Int32) = nI 48 from rfl]; exact nI_ltI (by omega) (by decide)
    have l122 : (57 : Int32) < nI (t q) ↔ 57 < t q := by rw [show (57 : Int32) = nI 57 from rfl]; exact nI_ltI (by decide) (by omega)
    have sg : ∀ {pc : Nat} {st : List Value} {P : Option Value → MM → Prop}, E0 g YX12_nextToken d pc [(0, .ref 130)] (.int (nI (t q)) :: st) M1 P → K0 g YX12_nextToken YX12_signAt d pc [.ref 130, .int (mi M1 130 4)] [(0, .ref 130)] st M1 P := fun k => by
      rw [e4]
      refine K0.ans (d1 := d - 1) (by omega) (tX12_signAt L1 R1 (by omega)) ?_
      rw [if_pos hqn]; exact k
    rw [runW] at er
    by_cases hq2 : isDc (t q) = true
    · have hb : 48 ≤ t q ∧ t q ≤ 57 := by unfold isDc at hq2; simpa using hq2
      rw [if_pos hq2] at er
      have hall2 : ∀ i, a ≤ i → i < q + 1 → isDc (t i) = true := fun i h1 h2 => by
        by_cases e : i = q
        · rw [e]; exact hq2
        · exact hall i h1 (by omega)
      have e8 : (4 : Int32) ≤ (mi M1 130 4 - mi M1 130 5) ↔ 4 ≤ q - a := by rw [e4, e5, nI_sb haq, show (4 : Int32) = nI 4 from rfl]; exact nI_leI (by decide) (by omega)
      refine qX12_nextToken_224 L1 (sg (qX12_nextToken_232 L1 rfl rfl (fun z => absurd (l97.mp z) (by omega)) (fun z => absurd (l97.mp z) (by omega)) (fun _ => sg (qX12_nextToken_245 L1 rfl rfl rfl (fun z => absurd (l122.mp z) (by omega)) (fun z => absurd (l122.mp z) (by omega)) (fun _ r => ?_) (fun _ r => sg (qX12_nextToken_279 L1 rfl rfl (L1.s (a := 130) rfl (by decide)) ?_))))))
      · rw [e8] at r
        refine ih (q + 1) _ (by omega) (by omega) (F1.w (by omega)) ?_ ?_ hall2 ?_ er
        · rw [wi_at, if_pos ⟨rfl, rfl⟩, e4, nI_1]
        · rw [wi_at, if_neg (by omega)]; exact e5
        · rw [wi_at, if_neg (by omega), e7, Nat.min_eq_right r, Nat.min_eq_right (by omega)]
      · rw [e8] at r
        refine ih (q + 1) _ (by omega) (by omega) ((F1.w (by omega)).w (by omega)) ?_ ?_ hall2 ?_ er
        · rw [wi_at, if_pos ⟨rfl, rfl⟩, wi_at, if_neg (by omega), e4, nI_1]
        · rw [wi_at, if_neg (by omega), wi_at, if_neg (by omega)]; exact e5
        · rw [wi_at, if_neg (by omega), wi_at, if_pos ⟨rfl, rfl⟩, e7, Nat.min_eq_left (by omega), Nat.min_eq_left (by omega), show q + 1 - a = (q - a) + 1 by omega, nuR, show a + (q - a) = q by omega]
          have e := nI_step (x := nuR t a (q - a)) (c := t q) hb.1
          rw [← e, Int32.sub_eq_add_neg, Int32.sub_eq_add_neg, Int32.add_assoc]
    · rw [if_neg hq2] at er
      obtain ⟨f1, f2⟩ := fin q M1 (by omega) haq F1 e4 e5 e7 er
      have hb : t q < 48 ∨ 57 < t q := by
        unfold isDc at hq2
        simp at hq2
        omega
      refine qX12_nextToken_224 L1 (sg (qX12_nextToken_232 L1 rfl rfl (fun _ z => f1 z) (fun _ z => f2 z) (fun w => sg (qX12_nextToken_245 L1 rfl rfl rfl (fun _ z => f1 z) (fun _ z => f2 z) (fun v => ?_) (fun v => ?_)))))
      · rw [l97] at w; rw [l122] at v; omega
      · rw [l97] at w; rw [l122] at v; omega
theorem nt_other (hd : 1 ≤ d) {a : Nat} (ha : a < n) (hnl : ¬ isLc (t a) = true) {M3 : MM} (L : Lay M3 la lb pa pb0 rl) (F3 : TkF M M3) (LM : Lay M la lb pa pb0 rl) (RM : RRd M n t) (x4 : mi M3 130 4 = nI a) (x5 : mi M3 130 5 = nI a) (x8 : mi M3 130 8 = 0) : E0 g YX12_nextToken d 212 [(0, .ref 130), (1, .int (nI (t a)))] [] M3 (fun rv M2 => rv = none ∧ TkR M2 (lexA n t a) ∧ TkF M M2) := by
  have R := F3.rd RM
  have n1000 := R.1
  have ta := (R.2.2 a ha).2
  have lt : ∀ (k : Nat) (z : Int32), z = nI k → k < 200 → (nI (t a) < z ↔ t a < k) := fun k z hz hk => by rw [hz]; exact nI_ltI (by omega) (by omega)
  have gt : ∀ (k : Nat) (z : Int32), z = nI k → k < 200 → (z < nI (t a) ↔ k < t a) := fun k z hz hk => by rw [hz]; exact nI_ltI (by omega) (by omega)
  have le : ∀ (k : Nat) (z : Int32), z = nI k → k < 200 → (nI (t a) ≤ z ↔ t a ≤ k) := fun k z hz hk => by rw [hz]; exact nI_leI (by omega) (by omega)
  have eq : ∀ (k : Nat) (z : Int32), z = nI k → k < 200 → (nI (t a) = z ↔ t a = k) := fun k z hz hk => by rw [hz]; exact nI_eq (by omega) (by omega)
  have dg : isDc (t a) = true ↔ 48 ≤ t a ∧ t a ≤ 57 := by unfold isDc; simp
  have F4 : TkF M (wi M3 130 4 (mi M3 130 4 + 1)) := F3.w (by omega)
  -- a sign, or none
  have sgn : ¬ isDc (t a) = true → E0 g YX12_nextToken d 322 [(0, .ref 130), (1, .int (nI (t a)))] [] M3 (fun rv M2 => rv = none ∧ TkR M2 (lexA n t a) ∧ TkF M M2) := fun hnd => by
    have eL : lexA n t a = ((if isSgc (t a) then 3 else 4), a, a + 1, [], 0, t a) := by unfold lexA; rw [if_pos ha, if_neg hnl, if_neg hnd]
    rw [eL]
    have put : ∀ (x : Int32) (k : Nat), x = nI k → (k = 3 ∨ k = 4) → (if isSgc (t a) then 3 else 4) = k → (none : Option Value) = none ∧ TkR (wi (wi M3 130 4 (mi M3 130 4 + 1)) 130 6 x) ((if isSgc (t a) then 3 else 4), a, a + 1, [], 0, t a) ∧ TkF M (wi (wi M3 130 4 (mi M3 130 4 + 1)) 130 6 x) := fun x k hx hk e => by
      rw [e]
      refine ⟨rfl, ⟨?_, ?_, ?_, fun y => absurd (show k = 1 from y) (by omega), fun y => absurd (show k = 2 from y) (by omega)⟩, F4.w (by omega)⟩
      · rw [wi_at, if_neg (by omega), wi_at, if_neg (by omega)]; exact x5
      · rw [wi_at, if_neg (by omega), wi_at, if_pos ⟨rfl, rfl⟩, x4, nI_1]
      · rw [wi_at, if_pos ⟨rfl, rfl⟩]; exact hx
    have three : isSgc (t a) = true → E0 g YX12_nextToken d 363 [] [.ref 130] (wi M3 130 4 (mi M3 130 4 + 1)) (fun rv M2 => rv = none ∧ TkR M2 ((if isSgc (t a) then 3 else 4), a, a + 1, [], 0, t a) ∧ TkF M M2) := fun z => qX12_nextToken_363 rfl ((F4.1.lay LM).s (a := 130) rfl (by decide)) (put 3 3 rfl (.inl rfl) (by rw [if_pos z]))
    have four : ¬ isSgc (t a) = true → (none : Option Value) = none ∧ TkR (wi (wi M3 130 4 (mi M3 130 4 + 1)) 130 6 4) ((if isSgc (t a) then 3 else 4), a, a + 1, [], 0, t a) ∧ TkF M (wi (wi M3 130 4 (mi M3 130 4 + 1)) 130 6 4) := fun z => put 4 4 rfl (.inr rfl) (by rw [if_neg z])
    have sg : isSgc (t a) = true ↔ (40 ≤ t a ∧ t a ≤ 43) ∨ t a = 45 ∨ (59 ≤ t a ∧ t a ≤ 61) := by unfold isSgc; simp [or_assoc]
    have k40 := lt 40 40 rfl (by omega)
    have k59 := lt 59 59 rfl (by omega)
    have k43 := le 43 43 rfl (by omega)
    have k45 := eq 45 45 rfl (by omega)
    have k61 := gt 61 61 rfl (by omega)
    refine qX12_nextToken_322 L rfl rfl rfl rfl rfl (fun r1 r2 => ?_) (fun r1 r2 r3 => ?_) (fun r1 r2 r3 r4 => ?_) (fun r1 r2 r3 r4 => ?_) (fun r1 r2 => ?_) (fun r1 r2 r3 => ?_) (fun r1 r2 r3 r4 => ?_) (fun r1 r2 r3 r4 r5 => ?_) (fun r1 r2 r3 r4 r5 => ?_) <;> simp only [k40, k59, k43, k45, k61] at *
    · exact three (sg.mpr (by omega))
    · exact four (fun z => by rw [sg] at z; omega)
    · exact four (fun z => by rw [sg] at z; omega)
    · exact three (sg.mpr (by omega))
    · exact three (sg.mpr (by omega))
    · exact three (sg.mpr (by omega))
    · exact four (fun z => by rw [sg] at z; omega)
    · exact four (fun z => by rw [sg] at z; omega)
    · exact three (sg.mpr (by omega))
  refine qX12_nextToken_212 (fun r => ?_) (fun r1 r2 => ?_) (fun r1 r2 => ?_)
  · rw [lt 48 48 rfl (by omega)] at r
    exact sgn (fun z => by rw [dg] at z; omega)
  · rw [gt 57 57 rfl (by omega)] at r2
    exact sgn (fun z => by rw [dg] at z; omega)
  · rw [lt 48 48 rfl (by omega)] at r1
    rw [gt 57 57 rfl (by omega)] at r2
    refine nt_num hd ha hnl (dg.mpr (by omega)) LM RM (n - a) a M3 (by omega) (Nat.le_refl _) F3 x4 x5 (fun i h1 h2 => absurd h2 (by omega)) ?_ rfl
    rw [Nat.sub_self, Nat.zero_min, x8]; rfl
theorem tX12_nextToken (L : Lay M la lb pa pb0 rl) (R : RRd M n t) (hp : mi M 130 4 = nI p) (hpn : p ≤ n) (hd : 1 ≤ d) : R0 g YX12_nextToken d [.ref 130] M (fun rv M1 => rv = none ∧ TkR M1 (lexT n t p) ∧ TkF M M1) := by
  have n1000 := R.1
  refine R0.of (by decide +kernel) (Nat.le_of_ble_eq_true rfl) rfl ?_
  -- behind the blanks
  have tok : ∀ a M1, a ≤ n → TkF M M1 → mi M1 130 4 = nI a → E0 g YX12_nextToken d 52 [(0, .ref 130)] [] M1 (fun rv M2 => rv = none ∧ TkR M2 (lexA n t a) ∧ TkF M M2) := fun a M1 han F1 e4 => by
    have L1 := F1.1.lay L
    have F3 : TkF M (wi (wj (wi M1 130 5 (mi M1 130 4)) 130 7 0) 130 8 0) := ((F1.w (by omega)).wl).w (by omega)
    have x4 : mi (wi (wj (wi M1 130 5 (mi M1 130 4)) 130 7 0) 130 8 0) 130 4 = nI a := by
      rw [wi_at, if_neg (by omega), wj_i, wi_at, if_neg (by omega)]; exact e4
    have x5 : mi (wi (wj (wi M1 130 5 (mi M1 130 4)) 130 7 0) 130 8 0) 130 5 = nI a := by
      rw [wi_at, if_neg (by omega), wj_i, wi_at, if_pos ⟨rfl, rfl⟩]; exact e4
    have x8 : mi (wi (wj (wi M1 130 5 (mi M1 130 4)) 130 7 0) 130 8 0) 130 8 = 0 := by rw [wi_at, if_pos ⟨rfl, rfl⟩]
    have x7 : mj (wi (wj (wi M1 130 5 (mi M1 130 4)) 130 7 0) 130 8 0) 130 7 = 0 := by
      rw [wi_j, wj_at, if_pos ⟨rfl, rfl⟩]
    refine qX12_nextToken_52 L1 rfl rfl rfl rfl ?_ ?_ ?_ ?_ ?_
    all_goals generalize wi (wj (wi M1 130 5 (mi M1 130 4)) 130 7 0) 130 8 0 = M3 at *
    all_goals
      have L3 := F3.1.lay L
      have R3 := F3.rd R
      have e3 : mi M3 130 4 = mi M3 130 3 ↔ a = n := by rw [x4, R3.2.1]; exact nI_eq (by omega) (by omega)
      have ec : (mi M3 130 4).toNatClampNeg = a := by rw [x4, nI_clamp (by omega)]
    · intro r
      rw [e3] at r
      rw [x4]; exact vi (by omega) (by decide)
    all_goals intro r
    all_goals rw [e3] at r
    · have han2 : a < n := by omega
      have ta := R3.2.2 a han2
      rw [ec, ta.1]
      intro r2
      rw [show (97 : Int32) = nI 97 from rfl, nI_ltI (by omega) (by decide)] at r2
      exact nt_other hd han2 (fun z => by unfold isLc at z; simp at z; omega) L3 F3 L R x4 x5 x8
    · have han2 : a < n := by omega
      have ta := R3.2.2 a han2
      rw [ec, ta.1]
      intro r2 r3
      rw [show (122 : Int32) = nI 122 from rfl, nI_ltI (by decide) (by omega)] at r3
      exact nt_other hd han2 (fun z => by unfold isLc at z; simp at z; omega) L3 F3 L R x4 x5 x8
    · have han2 : a < n := by omega
      have ta := R3.2.2 a han2
      rw [ec, ta.1]
      intro r2 r3
      rw [show (97 : Int32) = nI 97 from rfl, nI_ltI (by omega) (by decide)] at r2
      rw [show (122 : Int32) = nI 122 from rfl, nI_ltI (by decide) (by omega)] at r3
      refine nt_word hd han2 (by unfold isLc; simp; omega) L R (n - a) a M3 (by omega) (Nat.le_refl _) F3 x4 x5 (fun i h1 h2 => absurd h2 (by omega)) ?_ rfl
      rw [Nat.sub_self, Nat.zero_min, x7]; rfl
    · have eL : lexA n t a = (0, a, a, [], 0, 0) := by unfold lexA; rw [if_neg (by omega)]
      rw [eL]
      refine ⟨rfl, ⟨?_, ?_, ?_, fun y => absurd (show (0 : Nat) = 1 from y) (by decide), fun y => absurd (show (0 : Nat) = 2 from y) (by decide)⟩, F3.w (by omega)⟩
      · rw [wi_at, if_neg (by omega)]; exact x5
      · rw [wi_at, if_neg (by omega)]; exact x4
      · rw [wi_at, if_pos ⟨rfl, rfl⟩]; rfl
  have key : ∀ j q M1, q + j = n → TkF M M1 → mi M1 130 4 = nI q → skipB t j q = skipB t (n - p) p → E0 g YX12_nextToken d 0 [(0, .ref 130)] [] M1 (fun rv M2 => rv = none ∧ TkR M2 (lexT n t p) ∧ TkF M M2) := by
    intro j
    induction j with
    | zero =>
      intro q M1 hq F1 e4 hs
      have R1 := F1.rd R
      have ge : mi M1 130 3 ≤ mi M1 130 4 := by rw [R1.2.1, e4, nI_leI (by omega) (by omega)]; omega
      have hs : q = skipB t (n - p) p := hs
      rw [lexT_of, ← hs]
      exact qX12_nextToken_0 (F1.1.lay L) (fun z => absurd ge z) (fun z => absurd ge z) (fun _ => tok q M1 (by omega) F1 e4) (fun z => absurd ge z) (fun z => absurd ge z) (fun z => absurd ge z)
    | succ j ih =>
      intro q M1 hq F1 e4 hs
      have R1 := F1.rd R
      have hqn : q < n := by omega
      have tq := R1.2.2 q hqn
      have lt : ¬ mi M1 130 3 ≤ mi M1 130 4 := by rw [R1.2.1, e4, nI_leI (by omega) (by omega)]; omega
      have hv : vp_in (mi M1 130 4) 1000 := by rw [e4]; exact vi (by omega) (by decide)
      have ec : mi M1 131 (mi M1 130 4).toNatClampNeg = nI (t q) := by rw [e4, nI_clamp (by omega)]; exact tq.1
      have e32 : nI (t q) = 32 ↔ t q = 32 := by rw [show (32 : Int32) = nI 32 from rfl]; exact nI_eq (by omega) (by decide)
      have e10 : nI (t q) = 10 ↔ t q = 10 := by rw [show (10 : Int32) = nI 10 from rfl]; exact nI_eq (by omega) (by decide)
      have bl : isBlc (t q) = true ↔ t q = 10 ∨ t q = 32 := by unfold isBlc; simp
      rw [skipB] at hs
      have on : isBlc (t q) = true → E0 g YX12_nextToken d 39 [(0, .ref 130)] [] M1 (fun rv M2 => rv = none ∧ TkR M2 (lexT n t p) ∧ TkF M M2) := fun z => by
        rw [if_pos z] at hs
        refine qX12_nextToken_39 (F1.1.lay L) rfl (ih (q + 1) _ (by omega) (F1.w (by omega)) ?_ hs)
        rw [wi_at, if_pos ⟨rfl, rfl⟩, e4, nI_1]
      refine qX12_nextToken_0 (F1.1.lay L) (fun _ => hv) (fun _ _ => hv) (fun z => absurd z lt) (fun _ r => on ?_) (fun _ r1 r2 => ?_) (fun _ r1 r2 => on ?_)
      · rw [ec, e32] at r
        exact bl.mpr (.inr r)
      · rw [ec, e32] at r1
        rw [ec, e10] at r2
        rw [if_neg (fun z => by rw [bl] at z; omega)] at hs
        rw [lexT_of, ← hs]
        exact tok q M1 (by omega) F1 e4
      · rw [ec, e10] at r2
        exact bl.mpr (.inl r2)
  exact key (n - p) p M (by omega) TkF.rf hp rfl
end NT
