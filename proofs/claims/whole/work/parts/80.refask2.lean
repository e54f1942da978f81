/-! ===== the reference: the other film, what mends, the ride, tastes, what was seen ===== -/
theorem bits_low {x : Int32} (h : lowR x) : sBits x 10 = jBit x := by
  obtain ⟨m, m1, rfl⟩ := h
  exact (bits_all m m1).symm
section A2
variable {g : GG} {d : Nat} {M : MM} {la lb pa pb0 rl : Nat} {c : CD} {F : Nat → (Nat → Int32) → Int32} {T : TT} {w : SV}
theorem dOr_low (O : COk c F) (TO : TOk c T) : ∃ D, D < 1024 ∧ dOr (td (tvOf (cn c) T)) 6 = nI D := by
  have h10 := O.1
  have h6 := O.2.1
  rw [dOr_T (by omega) (fun k hk => by have := TO.1 k hk; omega)]
  exact pb_small _ h10
theorem cMin_nn (O : COk c F) (x : Int32) : ∀ k, k ≤ cn c → ∃ m, m ≤ 60 * k ∧ sMin (clen c) x k = nI m
  | 0, _ => ⟨0, Nat.le_refl _, rfl⟩
  | k + 1, h => by
    obtain ⟨m, m1, m2⟩ := cMin_nn O x k (by omega)
    obtain ⟨l, l1, l2, l3⟩ := O.2.2.2.2.2.2.1 k (by omega)
    unfold sMin
    rw [m2, l3]
    by_cases q : bt x k = true
    · rw [if_pos q, nI_add]; exact ⟨_, by omega, rfl⟩
    · rw [if_neg q, Int32.add_zero]; exact ⟨m, by omega, rfl⟩
theorem cLong_eq {x y : Int32} (O : COk c F) : cLong c x y = (decide (cMin c y < cMin c x) || (decide (cMin c x = cMin c y) && decide (jBit x < jBit y))) := by
  have h10 := O.1
  obtain ⟨a, a1, a2⟩ := cMin_nn O x (cn c) (Nat.le_refl _)
  obtain ⟨b, b1, b2⟩ := cMin_nn O y (cn c) (Nat.le_refl _)
  unfold cLong cMin
  rw [a2, b2]
  have e1 : (0 < nI a - nI b) ↔ nI b < nI a := by
    rw [nI_ltI (by omega) (by omega)]
    rcases Nat.lt_or_ge b a with q | q
    · rw [nI_sb (by omega), show (0 : Int32) = nI 0 from rfl, nI_ltI (by decide) (by omega)]; omega
    · constructor
      · intro z
        exfalso
        have e : nI a - nI b = -(nI (b - a)) := by rw [← nI_sb q, Int32.neg_sub]
        rw [e] at z
        have : ∀ k, k < 1000 → ¬ (0 : Int32) < -(nI k) := by decide +kernel
        exact this (b - a) (by omega) z
      · intro z; omega
  have e2 : (nI a - nI b = 0) ↔ nI a = nI b := by
    constructor
    · intro z
      have := congrArg (· + nI b) z
      simpa [Int32.sub_add_cancel] using this
    · intro z; rw [z, Int32.sub_self]
  rw [decide_eq_decide.mpr e1, decide_eq_decide.mpr e2]
theorem tX12_otherFilm {D : Nat} (L : Lay M la lb pa pb0 rl) (R : RCo M c F) (O : COk c F) (S : RSt (mi M 162) (cn c) (ch c) T) (TO : TOk c T) (hD : dOr (td (tvOf (cn c) T)) 6 = nI D) (h2 : D < 1024) (hd : 1 ≤ d) : R0 g YX12_otherFilm d [.ref 130] M (Ans (otherF c (nI D) (D + 1) 0 0) M) := by
  refine R0.of (by decide +kernel) (Nat.le_of_ble_eq_true rfl) rfl (qX12_otherFilm_0 L (K0.ans (d1 := d - 1) (by omega) (tX12_inDrawers L R O S TO) (qX12_otherFilm_4 ?_)))
  rw [hD]
  have key := up0 (p := fun k => ∀ b, lowR b → otherF c (nI D) (D + 1 - k) k b = otherF c (nI D) (D + 1) 0 0 → E0 g YX12_otherFilm d 9 [(0, .ref 130), (1, .int (nI D)), (2, .int b), (3, .int (nI k))] [] M (Ans (otherF c (nI D) (D + 1) 0 0) M)) (D + 1) (fun b nb hs => ?_) (fun k hk ih b nb hs => ?_)
  · exact key 0 ⟨0, by decide, rfl⟩ rfl
  · have lt : nI D < nI (D + 1) := by rw [nI_ltI (by omega) (by omega)]; omega
    rw [Nat.sub_self] at hs
    exact qX12_otherFilm_9 L (fun _ => ⟨by rw [← hs]; rfl, rfl⟩) (fun z => absurd lt z) (fun z => absurd lt z)
  · have lt : ¬ nI D < nI k := by rw [nI_ltI (by omega) (by omega)]; omega
    rw [show D + 1 - k = (D + 1 - (k + 1)) + 1 by omega, otherF] at hs
    have lk : lowR (nI k) := ⟨k, by omega, rfl⟩
    rw [← nI_1] at ih
    refine qX12_otherFilm_9 L (fun z => absurd z lt) (fun _ r => ?_) (fun _ r => K0.ans (d1 := d - 1) (by omega) (tX12_makesSense L R O) (qX12_otherFilm_27 L (fun r2 => ?_) (fun r2 => ?_)))
    · rw [if_neg (fun z => r z.1)] at hs
      exact ih b nb hs
    · rw [b2i_n] at r2
      refine K0.ans (d1 := d - 1) (by omega) (tX12_minutesOf L R O) (qX12_otherFilm_38 L (K0.ans (d1 := d - 1) (by omega) (tX12_minutesOf L R O) (qX12_otherFilm_45 (fun a => ?_) (fun a e => ?_) (fun a e => ?_))))
      · rw [if_pos ⟨r, r2, by rw [cLong_eq O, decide_eq_true a, Bool.true_or]⟩] at hs
        exact ih _ lk hs
      · rw [if_neg (fun z => by have := z.2.2; rw [cLong_eq O, decide_eq_false a, decide_eq_false e] at this; simp at this)] at hs
        exact ih b nb hs
      · refine K0.ans (d1 := d - 1) (by omega) tX12_bits (qX12_otherFilm_65 (K0.ans (d1 := d - 1) (by omega) tX12_bits (qX12_otherFilm_69 (fun q => ?_) (fun q => ?_)))) <;> rw [bits_low lk, bits_low nb] at q
        · rw [if_neg (fun z => by have := z.2.2; rw [cLong_eq O, decide_eq_false a, decide_eq_true e, decide_eq_false (Int32.not_lt.mpr q)] at this; exact absurd this (by decide))] at hs
          exact ih b nb hs
        · rw [if_pos ⟨r, r2, by rw [cLong_eq O, decide_eq_true e, decide_eq_true (Int32.not_le.mp q)]; simp⟩] at hs
          exact ih _ lk hs
    · rw [b2i_z] at r2
      rw [if_neg (fun z => by rw [z.2.1] at r2; exact absurd r2 (by decide))] at hs
      exact ih b nb hs
theorem tX12_other {D : Nat} {x : Int32} (L : Lay M la lb pa pb0 rl) (R : RCo M c F) (O : COk c F) (S : RSt (mi M 162) (cn c) (ch c) T) (TO : TOk c T) (hD : dOr (td (tvOf (cn c) T)) 6 = nI D) (h2 : D < 1024) (hd : 2 ≤ d) : R0 g YX12_other d [.ref 130, .int x] M (QR (oAns c x (otherF c (nI D) (D + 1) 0 0)) M) := by
  have h10 := O.1
  have s1 : Sc M (wi M 130 0 0) := Sc.t0
  have L1 := s1.1.lay L
  have R1 := R.sc s1
  unfold oAns
  refine R0.of (by decide +kernel) (Nat.le_of_ble_eq_true rfl) rfl (qX12_other_0 L rfl (K0.ans (d1 := d - 1) (by omega) tX12_within ?_))
  cases q : wIn x 0 1
  · have n0 : ¬ x = 0 := fun z => by rw [z] at q; exact absurd q (by decide)
    have n1 : ¬ x = 1 := fun z => by rw [z] at q; exact absurd q (by decide)
    rw [if_neg n0, if_neg n1]
    exact qX12_other_11 L1 (fun z => absurd rfl z) (fun _ => ⟨rfl, s1⟩)
  · obtain ⟨y, hy, rfl⟩ := wIn_of (m := 1) (by decide) q
    refine qX12_other_11 L1 (fun _ => K0.ans (d1 := d - 1) (by omega) (tX12_otherFilm L1 R1 O (S.sc h10 s1) TO hD h2 (by omega)) (qX12_other_20 L1 (fun r => ⟨?_, s1⟩) (fun r => K0.ans (d1 := d - 1) (by omega) (tX12_minutesOf L1 R1 O) (qX12_other_30 ⟨?_, s1⟩)))) (fun z => absurd z (by decide))
    · have : y = 1 := by
        rcases (show y = 0 ∨ y = 1 by omega) with rfl | rfl
        · exact absurd rfl r
        · rfl
      subst this
      rw [if_neg r, if_pos (show nI 1 = 1 from rfl)]
    · rw [if_pos r]
theorem tX12_mends {D : Nat} (L : Lay M la lb pa pb0 rl) (R : RCo M c F) (O : COk c F) (S : RSt (mi M 162) (cn c) (ch c) T) (TO : TOk c T) (hD : dOr (td (tvOf (cn c) T)) 6 = nI D) (h2 : D < 1024) (hd : 1 ≤ d) : R0 g YX12_mends d [.ref 130] M (QR (mendF c (tp (tvOf (cn c) T)) (nI D) (D + 1) 0 (-1)) M) := by
  have h10 := O.1
  have s1 : Sc M (wi M 130 0 0) := Sc.t0
  have L1 := s1.1.lay L
  have R1 := R.sc s1
  have S1 := S.sc h10 s1
  refine R0.of (by decide +kernel) (Nat.le_of_ble_eq_true rfl) rfl (qX12_mends_0 L rfl (K0.ans (d1 := d - 1) (by omega) (tX12_inDrawers L1 R1 O S1 TO) (qX12_mends_9 ?_)))
  rw [hD]
  have ep : mi (wi M 130 0 0) 162 0 = tp (tvOf (cn c) T) := S1.1
  have key := up0 (p := fun k => ∀ b, (b = -1 ∨ lowR b) → mendF c (tp (tvOf (cn c) T)) (nI D) (D + 1 - k) k b = mendF c (tp (tvOf (cn c) T)) (nI D) (D + 1) 0 (-1) → E0 g YX12_mends d 14 [(0, .ref 130), (1, .int (nI D)), (2, .int b), (3, .int (nI k))] [] (wi M 130 0 0) (QR (mendF c (tp (tvOf (cn c) T)) (nI D) (D + 1) 0 (-1)) M)) (D + 1) (fun b nb hs => ?_) (fun k hk ih b nb hs => ?_)
  · exact key (-1) (.inl rfl) rfl
  · have lt : nI D < nI (D + 1) := by rw [nI_ltI (by omega) (by omega)]; omega
    rw [Nat.sub_self] at hs
    exact qX12_mends_14 L1 (fun _ => ⟨by rw [← hs]; rfl, s1⟩) (fun z => absurd lt z) (fun z => absurd lt z) (fun z => absurd lt z)
  · have lt : ¬ nI D < nI k := by rw [nI_ltI (by omega) (by omega)]; omega
    rw [show D + 1 - k = (D + 1 - (k + 1)) + 1 by omega, mendF] at hs
    have lk : lowR (nI k) := ⟨k, by omega, rfl⟩
    have ngb : Ng b := by rcases nb with z | z; exact .inl z; exact z.nn.1
    rw [← nI_1] at ih
    have sense : (nI k &&& (nI D ^^^ (-1))) = 0 → (b = -1 ∨ jBit (nI k) < jBit b) → K0 g YX12_mends YX12_makesSense d 54 [.ref 130, .int ((mi (wi M 130 0 0) 162 0) ||| nI k)] [(0, .ref 130), (1, .int (nI D)), (2, .int b), (3, .int (nI k))] [] (wi M 130 0 0) (QR (mendF c (tp (tvOf (cn c) T)) (nI D) (D + 1) 0 (-1)) M) := fun r rb => by
      rw [ep]
      refine K0.ans (d1 := d - 1) (by omega) (tX12_makesSense L1 R1 O) (qX12_mends_54 (fun y => ?_) (fun y => ?_))
      · rw [b2i_z] at y
        rw [if_neg (fun z => by rw [z.2.2] at y; exact absurd y (by decide))] at hs
        exact ih b nb hs
      · rw [b2i_n] at y
        rw [if_pos ⟨rb, r, y⟩] at hs
        exact ih _ (.inr lk) hs
    refine qX12_mends_14 L1 (fun z => absurd z lt) (fun _ r => ?_) (fun _ r rb => sense r (.inl (ngb.lt.mp rb))) (fun _ r rb => ?_)
    · rw [if_neg (fun z => r z.2.1)] at hs
      exact ih b nb hs
    · rw [ngb.lt] at rb
      have lb : lowR b := nb.resolve_left rb
      refine K0.ans (d1 := d - 1) (by omega) tX12_bits (qX12_mends_35 (K0.ans (d1 := d - 1) (by omega) tX12_bits (qX12_mends_39 L1 (fun q => ?_) (fun q => ?_)))) <;> rw [bits_low lk, bits_low lb] at q
      · rw [if_neg (fun z => z.1.elim rb (fun y => Int32.not_lt.mpr q y))] at hs
        exact ih b nb hs
      · exact sense r (.inr (Int32.not_le.mp q))
end A2
