/-! ===== the reference: answers on the tour ahead, on drawers, on tastes ===== -/
def lowR (x : Int32) : Prop := ∃ m, m < 1024 ∧ x = nI m
theorem lowR.nn {x : Int32} (h : lowR x) : Ng x ∧ x ≠ -1 := by
  obtain ⟨m, m1, rfl⟩ := h
  exact ⟨Ng.n (by omega), nI_m1 (by omega)⟩
theorem lowR.and {x y : Int32} (h : lowR x) : lowR (x &&& y) := small_of fun i h1 h2 => by
  obtain ⟨m, m1, rfl⟩ := h
  rw [b_and, bt_nI, Nat.testBit_lt_two_pow (Nat.lt_of_lt_of_le m1 (Nat.pow_le_pow_right (n := 2) (by decide) (show 10 ≤ i from h1))), Bool.and_false, Bool.false_and]
theorem lowR.tp {n : Nat} {T : TT} (hn : n ≤ 10) : lowR (tp (tvOf n T)) := pb_small _ hn
theorem rowF_low {c : CD} {v : TV} : ∀ j p row, lowR row → lowR (rowF c v j p row)
  | 0, _, _, h => h
  | j + 1, p, row, h => rowF_low j (p + 1) _ h.and
theorem sAt_neg {row x : Int32} (hx : x < 0) : ∀ j i q, q + j < 2 ^ 31 → sAt row x j i (nI q) = -1
  | 0, _, _, _ => rfl
  | j + 1, i, q, h => by
    have ne : ¬ nI q = x := fun z => nI_pos (n := q) (by omega) (by rw [z]; exact hx)
    unfold sAt
    rw [nI_1, sAt_neg hx j (i + 1) (q + 1) (by omega), sAt_neg hx j (i + 1) q (by omega)]
    simp only [if_neg ne]
    split <;> rfl
section A1
variable {g : GG} {d : Nat} {M : MM} {la lb pa pb0 rl : Nat} {c : CD} {F : Nat → (Nat → Int32) → Int32} {T : TT}
theorem cAhd_low {hl : Nat} (O : COk c F) : cAhd c (tvOf (cn c) T) (nI hl) = -1 ∨ lowR (cAhd c (tvOf (cn c) T) (nI hl)) := by
  unfold cAhd
  split
  · exact .inr (rowF_low _ _ _ (lowR.tp O.1))
  · exact .inl rfl
theorem cAhd_out {i : Int32} (q : sIn i (nI (ch c)) = false) {v : TV} : cAhd c v i = -1 := by
  unfold cAhd isAhd
  rw [q, Bool.false_and, if_neg (by decide)]
theorem tX12_shown {i x : Int32} (L : Lay M la lb pa pb0 rl) (R : RCo M c F) (O : COk c F) (S : RSt (mi M 162) (cn c) (ch c) T) (TO : TOk c T) (hd : 8 ≤ d) : R0 g YX12_shown d [.ref 130, .int i, .int x] M (QR (if cAhd c (tvOf (cn c) T) i = -1 then -1 else sAt (cAhd c (tvOf (cn c) T) i) x (cn c) 0 0) M) := by
  have h10 := O.1
  have h6 := O.2.1
  have s1 : Sc M (wi M 130 0 0) := Sc.t0
  have L1 := s1.1.lay L
  have R1 := R.sc s1
  have S1 := S.sc h10 s1
  refine R0.of (by decide +kernel) (Nat.le_of_ble_eq_true rfl) rfl (qX12_shown_0 L rfl (K0.ans (d1 := d - 1) (by omega) (tX12_isHall L1 R1) ?_))
  cases q : sIn i (nI (ch c))
  · rw [cAhd_out q, if_pos rfl]
    exact qX12_shown_10 L1 (fun _ => ⟨rfl, s1⟩) (fun z => absurd rfl z) (fun z => absurd rfl z)
  · obtain ⟨hl, hh, rfl⟩ := sIn_of (by omega) q
    have eh : (nI hl).toNatClampNeg = hl := nI_clamp (by omega)
    have hv : vp_in (nI hl) 6 := vi (by omega) (by decide)
    refine qX12_shown_10 L1 (fun z => absurd z (by decide)) (fun _ r => K0.set (d1 := d - 1) (by omega) (tX12_goesOn L1 R1 O S1 TO (by omega)) ?_) (fun _ r => ⟨?_, s1⟩)
    · rintro rv M2 ⟨rfl, G⟩
      have er : mi M2 168 (nI hl).toNatClampNeg = cAhd c (tvOf (cn c) T) (nI hl) := by rw [eh]; exact G.row O TO hh
      have s2 := s1.trans G.2.2.2.2.1
      have R2 := R.sc s2
      have L2 := s2.1.lay L
      rcases cAhd_low (T := T) (hl := hl) O with z | z
      · rw [z] at er
        rw [z, if_pos rfl]
        exact qX12_shown_24 L2 hv (fun y => absurd y (by rw [er]; decide)) (fun _ => ⟨rfl, s2⟩)
      · rw [if_neg z.nn.2]
        refine qX12_shown_24 L2 hv (fun _ => ?_) (fun y => absurd (by rw [er, z.nn.1.ge]; exact z.nn.2) y)
        have key := up0 (p := fun k => ∀ pl, sAt (cAhd c (tvOf (cn c) T) (nI hl)) x (cn c - k) k pl = sAt (cAhd c (tvOf (cn c) T) (nI hl)) x (cn c) 0 0 → E0 g YX12_shown d 40 [(0, .ref 130), (1, .int (nI hl)), (2, .int x), (3, .int pl), (4, .int (nI k))] [] M2 (QR (sAt (cAhd c (tvOf (cn c) T) (nI hl)) x (cn c) 0 0) M)) (cn c) (fun pl hs => ?_) (fun k hk ih pl hs => ?_)
        · exact key 0 rfl
        · have ge : mi M2 132 0 ≤ nI (cn c) := by rw [R2.1]; exact Int32.le_refl _
          rw [Nat.sub_self] at hs
          exact qX12_shown_40 L2 (fun y => absurd ge y) (fun _ => ⟨by rw [← hs]; rfl, s2⟩) (fun y => absurd ge y) (fun y => absurd ge y) (fun y => absurd ge y)
        · have lt : ¬ mi M2 132 0 ≤ nI k := by rw [R2.1, nI_leI (by omega) (by omega)]; omega
          rw [show cn c - k = (cn c - (k + 1)) + 1 by omega, sAt] at hs
          refine qX12_shown_40 L2 (fun _ => hv) (fun y => absurd y lt) (fun _ a b => ?_) (fun _ a b => ⟨?_, s2⟩) (fun _ a => ?_) <;> rw [er] at a
          · rw [bit_z _ (by omega)] at a
            rw [if_pos (by cases y : bt (cAhd c (tvOf (cn c) T) (nI hl)) k; exact absurd y a; rfl), if_neg b] at hs
            rw [nI_1]; exact ih _ hs
          · rw [bit_z _ (by omega)] at a
            rw [if_pos (by cases y : bt (cAhd c (tvOf (cn c) T) (nI hl)) k; exact absurd y a; rfl), if_pos b] at hs
            rw [← hs]
          · rw [bit_z _ (by omega)] at a
            rw [if_neg (by rw [a]; decide)] at hs
            rw [nI_1]; exact ih _ hs
    · have r : x < 0 := Int32.not_le.mp r
      rw [show sAt (cAhd c (tvOf (cn c) T) (nI hl)) x (cn c) 0 0 = -1 from sAt_neg r (cn c) 0 0 (by omega)]
      split <;> rfl
theorem tX12_minutes {i : Int32} (L : Lay M la lb pa pb0 rl) (R : RCo M c F) (O : COk c F) (S : RSt (mi M 162) (cn c) (ch c) T) (TO : TOk c T) (hd : 8 ≤ d) : R0 g YX12_minutes d [.ref 130, .int i] M (QR (if cAhd c (tvOf (cn c) T) i = -1 then -1 else cMin c (cAhd c (tvOf (cn c) T) i)) M) := by
  have h10 := O.1
  have h6 := O.2.1
  have s1 : Sc M (wi M 130 0 0) := Sc.t0
  have L1 := s1.1.lay L
  have R1 := R.sc s1
  have S1 := S.sc h10 s1
  refine R0.of (by decide +kernel) (Nat.le_of_ble_eq_true rfl) rfl (qX12_minutes_0 L rfl (K0.ans (d1 := d - 1) (by omega) (tX12_isHall L1 R1) ?_))
  cases q : sIn i (nI (ch c))
  · rw [cAhd_out q, if_pos rfl]
    exact qX12_minutes_10 L1 (fun z => absurd rfl z) (fun _ => ⟨rfl, s1⟩)
  · obtain ⟨hl, hh, rfl⟩ := sIn_of (by omega) q
    have eh : (nI hl).toNatClampNeg = hl := nI_clamp (by omega)
    have hv : vp_in (nI hl) 6 := vi (by omega) (by decide)
    refine qX12_minutes_10 L1 (fun _ => K0.set (d1 := d - 1) (by omega) (tX12_goesOn L1 R1 O S1 TO (by omega)) ?_) (fun z => absurd z (by decide))
    rintro rv M2 ⟨rfl, G⟩
    have er : mi M2 168 (nI hl).toNatClampNeg = cAhd c (tvOf (cn c) T) (nI hl) := by rw [eh]; exact G.row O TO hh
    have s2 := s1.trans G.2.2.2.2.1
    have L2 := s2.1.lay L
    rcases cAhd_low (T := T) (hl := hl) O with z | z
    · rw [z] at er
      rw [z, if_pos rfl]
      exact qX12_minutes_20 L2 hv (fun _ => hv) (fun y => absurd y (by rw [er]; decide)) (fun _ => qX12_minutes_43 ⟨rfl, s2⟩)
    · rw [if_neg z.nn.2]
      refine qX12_minutes_20 L2 hv (fun _ => hv) (fun _ => ?_) (fun y => absurd (by rw [er, z.nn.1.ge]; exact z.nn.2) y)
      rw [er]
      exact K0.ans (d1 := d - 1) (by omega) (tX12_minutesOf L2 (R.sc s2) O) (qX12_minutes_43 ⟨rfl, s2⟩)
theorem tX12_silly (L : Lay M la lb pa pb0 rl) (R : RCo M c F) (O : COk c F) (S : RSt (mi M 162) (cn c) (ch c) T) (TO : TOk c T) (hd : 8 ≤ d) : R0 g YX12_silly d [.ref 130] M (QR (sillyF c (tvOf (cn c) T) (ch c - nPl c (tvOf (cn c) T)) (nPl c (tvOf (cn c) T)) (tp (tvOf (cn c) T))) M) := by
  have h10 := O.1
  have s1 : Sc M (wi M 130 0 0) := Sc.t0
  have hpl := plF_le TO
  refine R0.of (by decide +kernel) (Nat.le_of_ble_eq_true rfl) rfl (qX12_silly_0 L rfl (K0.set (d1 := d - 1) (by omega) (tX12_goesOn (s1.1.lay L) (R.sc s1) O (S.sc h10 s1) TO (by omega)) ?_))
  rintro rv M2 ⟨rfl, G⟩
  have s2 := s1.trans G.2.2.2.2.1
  refine qX12_silly_10 (s2.1.lay L) ⟨?_, s2⟩
  rw [G.1, sillyB_m1 O.2.1 _ _ _ (by omega), nPl_T TO O.2.1]
theorem tX12_gone {i : Int32} (L : Lay M la lb pa pb0 rl) (R : RCo M c F) (O : COk c F) (S : RSt (mi M 162) (cn c) (ch c) T) (TO : TOk c T) (hd : 8 ≤ d) : R0 g YX12_gone d [.ref 130, .int i] M (QR (if sIn i (nI (cn c)) then goneF c (tvOf (cn c) T) i (ch c - nPl c (tvOf (cn c) T)) (nPl c (tvOf (cn c) T)) (tp (tvOf (cn c) T)) else -1) M) := by
  have h10 := O.1
  have s1 : Sc M (wi M 130 0 0) := Sc.t0
  have L1 := s1.1.lay L
  have R1 := R.sc s1
  have hpl := plF_le TO
  refine R0.of (by decide +kernel) (Nat.le_of_ble_eq_true rfl) rfl (qX12_gone_0 L rfl (K0.ans (d1 := d - 1) (by omega) (tX12_isShot L1 R1) ?_))
  cases q : sIn i (nI (cn c))
  · rw [if_neg (by decide)]
    exact qX12_gone_10 L1 (fun z => absurd rfl z) (fun _ => ⟨rfl, s1⟩)
  · obtain ⟨k, hk, rfl⟩ := sIn_of (by omega) q
    rw [if_pos rfl]
    refine qX12_gone_10 L1 (fun _ => K0.set (d1 := d - 1) (by omega) (tX12_goesOn L1 R1 O (S.sc h10 s1) TO (by omega)) ?_) (fun z => absurd z (by decide))
    rintro rv M2 ⟨rfl, G⟩
    have s2 := s1.trans G.2.2.2.2.1
    refine qX12_gone_20 (s2.1.lay L) (vi (by omega) (by decide)) ⟨?_, s2⟩
    rw [nI_clamp (by omega), G.2.2.2.1 k hk, goneB_m1 O.2.1 h10 (by omega) _ _ _ (by omega), nPl_T TO O.2.1]
theorem tX12_ofSort {x y : Int32} (L : Lay M la lb pa pb0 rl) (R : RCo M c F) (O : COk c F) (hx : ∀ i, i < 32 → bt x i = true → i < cn c) : R0 g YX12_ofSort d [.ref 130, .int x, .int y] M (Ans (x &&& sSort (csrt c) y (cn c)) M) := by
  have h10 := O.1
  have sSort_bt : ∀ n i, n ≤ 32 → i < 32 → bt (sSort (csrt c) y n) i = (decide (i < n) && decide (csrt c i = y)) := by
    intro n
    induction n with
    | zero => intro i _ hi; rw [sSort, b_0]; simp
    | succ n ih =>
      intro i hn hi
      have := ih i (by omega) hi
      rw [sSort]
      by_cases e : i = n
      · subst e
        split
        · rename_i z; rw [b_or, b_one (by omega) hi]; simp [z]
        · rename_i z; rw [this]; simp [z]
      · split
        · rw [b_or, b_one (by omega) hi, this, decide_eq_false e, Bool.or_false]
          congr 1; exact decide_eq_decide.mpr (by omega)
        · rw [this]; congr 1; exact decide_eq_decide.mpr (by omega)
  have ef : x &&& sSort (csrt c) y (cn c) = pb (fun k => bt x k && decide (csrt c k = y)) (cn c) := by
    refine pb_ext (by omega) (fun i hi => ?_)
    rw [b_and, sSort_bt _ _ (by omega) hi]
    cases bt x i <;> cases decide (i < cn c) <;> rfl
  rw [ef]
  have e : mi M 132 0 = nI (cn c) := R.1
  refine R0.of (by decide +kernel) (Nat.le_of_ble_eq_true rfl) rfl (qX12_ofSort_0 ?_)
  have ge : mi M 132 0 ≤ nI (cn c) := by rw [e]; exact Int32.le_refl _
  have key := up0 (p := fun i => E0 g YX12_ofSort d 5 [(0, .ref 130), (1, .int x), (2, .int y), (3, .int (pb (fun k => bt x k && decide (csrt c k = y)) i)), (4, .int (nI i))] [] M (Ans (pb (fun k => bt x k && decide (csrt c k = y)) (cn c)) M)) (cn c) (qX12_ofSort_5 L (fun r => absurd ge r) (fun _ => ⟨rfl, rfl⟩) (fun r => absurd ge r) (fun r => absurd ge r) (fun r => absurd ge r)) (fun i hi ih => ?_)
  · exact key
  · have lt : ¬ mi M 132 0 ≤ nI i := by rw [e, nI_leI (by omega) (by omega)]; omega
    rw [← nI_1, pb] at ih
    have e5 : mi M 135 (nI i).toNatClampNeg = csrt c i := by rw [nI_clamp (by omega), (R.2.2.1 i hi).1]
    refine qX12_ofSort_5 L (fun _ _ => vi (by omega) (by decide)) (fun r => absurd r lt) (fun _ r => ?_) (fun _ r r2 => ?_) (fun _ r r2 => ?_)
    · rw [bit_f x (by omega)] at r
      rw [r, Bool.false_and, if_neg (by decide)] at ih
      rw [Int32.or_zero]; exact ih
    · rw [e5] at r2
      rw [decide_eq_false r2, Bool.and_false, if_neg (by decide)] at ih
      rw [Int32.or_zero]; exact ih
    · rw [bit_t x (by omega)] at r
      rw [e5] at r2
      rw [r, decide_eq_true r2, if_pos (show (true && true) = true from rfl)] at ih
      exact ih
theorem tX12_hoard {x : Int32} (L : Lay M la lb pa pb0 rl) (R : RCo M c F) (O : COk c F) (S : RSt (mi M 162) (cn c) (ch c) T) (TO : TOk c T) (hd : 1 ≤ d) : R0 g YX12_hoard d [.ref 130, .int x] M (QR (if sIn x 10 then hoardF c (tvOf (cn c) T) (sSort (csrt c) x (cn c)) (ch c) 0 0 (-1) else -1) M) := by
  have h10 := O.1
  have h6 := O.2.1
  have s1 : Sc M (wi M 130 0 0) := Sc.t0
  have L1 := s1.1.lay L
  have R1 := R.sc s1
  have S1 := S.sc h10 s1
  have w1 : wIn x 0 9 = sIn x 10 := wIn_sIn (m := 9) (by decide)
  refine R0.of (by decide +kernel) (Nat.le_of_ble_eq_true rfl) rfl (qX12_hoard_0 L rfl (K0.ans (d1 := d - 1) (by omega) tX12_within ?_))
  rw [w1]
  cases q : sIn x 10
  · exact qX12_hoard_12 (fun z => absurd rfl z) (fun _ => ⟨rfl, s1⟩)
  · rw [if_pos rfl]
    refine qX12_hoard_12 (fun _ => ?_) (fun z => absurd z (by decide))
    have ob130 : ob (wi M 130 0 0) 130 12 := L1.s (a := 130) rfl (by decide)
    have key := up0 (p := fun k => ∀ m b, hoardF c (tvOf (cn c) T) (sSort (csrt c) x (cn c)) (ch c - k) k m b = hoardF c (tvOf (cn c) T) (sSort (csrt c) x (cn c)) (ch c) 0 0 (-1) → E0 g YX12_hoard d 24 [(0, .ref 130), (1, .int x), (2, .int b), (3, .int m), (4, .int (nI k))] [] (wi M 130 0 0) (QR (hoardF c (tvOf (cn c) T) (sSort (csrt c) x (cn c)) (ch c) 0 0 (-1)) M)) (ch c) (fun m b hs => ?_) (fun k hk ih m b hs => ?_)
    · exact key 0 (-1) rfl
    · have ge : mi (wi M 130 0 0) 132 1 ≤ nI (ch c) := by rw [R1.2.1]; exact Int32.le_refl _
      rw [Nat.sub_self] at hs
      exact qX12_hoard_24 L1 (fun _ => ⟨by rw [← hs]; rfl, s1⟩) (fun y => absurd ge y)
    · have lt : ¬ mi (wi M 130 0 0) 132 1 ≤ nI k := by rw [R1.2.1, nI_leI (by omega) (by omega)]; omega
      rw [show ch c - k = (ch c - (k + 1)) + 1 by omega, hoardF] at hs
      have hb : ∀ i, i < 32 → bt (td (tvOf (cn c) T) k) i = true → i < cn c := fun i hi y => by
        have y : bt (pb (fun j => T.1 j == k + 1) (cn c)) i = true := y
        rw [bt_pb _ _ (by omega) i hi, Bool.and_eq_true] at y
        exact of_decide_eq_true y.1
      refine qX12_hoard_24 L1 (fun y => absurd y lt) (fun _ => K0.ans (d1 := d - 1) (by omega) (tX12_drawerOf L1 R1 O S1 TO (by omega)) (qX12_hoard_43 ob130 (K0.ans (d1 := d - 1) (by omega) (tX12_ofSort L1 R1 O hb) (qX12_hoard_47 ob130 (K0.ans (d1 := d - 1) (by omega) (tX12_minutesOf L1 R1 O) (qX12_hoard_50 (fun r => ?_) (fun r => ?_)))))))
      · rw [if_neg (Int32.not_le.mpr r)] at hs
        rw [nI_1]; exact ih _ _ hs
      · rw [if_pos (Int32.not_lt.mp r)] at hs
        rw [nI_1]; exact ih _ _ hs
theorem tX12_mild (L : Lay M la lb pa pb0 rl) (R : RCo M c F) (O : COk c F) (hd : 6 ≤ d) : R0 g YX12_mild d [.ref 130] M (QR (mildF c (ch c) 0 0 (-1)) M) := by
  have h10 := O.1
  have h6 := O.2.1
  have s1 : Sc M (wi M 130 0 0) := Sc.t0
  refine R0.of (by decide +kernel) (Nat.le_of_ble_eq_true rfl) rfl (qX12_mild_0 L rfl ?_)
  have key := up0 (p := fun k => ∀ m b M2, Sc M M2 → Ng b → mildF c (ch c - k) k m b = mildF c (ch c) 0 0 (-1) → E0 g YX12_mild d 11 [(0, .ref 130), (1, .int b), (2, .int m), (3, .int (nI k))] [] M2 (QR (mildF c (ch c) 0 0 (-1)) M)) (ch c) (fun m b M2 s2 nb hs => ?_) (fun k hk ih m b M2 s2 nb hs => ?_)
  · exact key 0 (-1) _ s1 Ng.m rfl
  · have R2 := R.sc s2
    have ge : mi M2 132 1 ≤ nI (ch c) := by rw [R2.2.1]; exact Int32.le_refl _
    rw [Nat.sub_self] at hs
    exact qX12_mild_11 (s2.1.lay L) (fun _ => ⟨by rw [← hs]; rfl, s2⟩) (fun y => absurd ge y)
  · have R2 := R.sc s2
    have L2 := s2.1.lay L
    have lt : ¬ mi M2 132 1 ≤ nI k := by rw [R2.2.1, nI_leI (by omega) (by omega)]; omega
    rw [show ch c - k = (ch c - (k + 1)) + 1 by omega, mildF] at hs
    refine qX12_mild_11 L2 (fun y => absurd y lt) (fun _ => K0.ans (d1 := d - 1) (by omega) (tX12_allShots L2 R2) (qX12_mild_28 (L2.s (a := 130) rfl (by decide)) (K0.set (d1 := d - 1) (by omega) (tX12_takesOut L2 R2 O hk (by omega)) ?_)))
    rintro rv M3 ⟨rfl, F3⟩
    have s3 : Sc M M3 := s2.trans (Sc.of F3 (fun b hb => ⟨by omega, by omega, by omega⟩))
    have L3 := s3.1.lay L
    refine qX12_mild_31 (L3.s (a := 130) rfl (by decide)) (K0.ans (d1 := d - 1) (by omega) (tX12_minutesOf L3 (R.sc s3) O) (qX12_mild_34 (fun r => ?_) (fun r r2 => ?_) (fun r r2 => ?_))) <;> rw [nI_1] <;> rw [nb.lt] at r
    · rw [if_pos (.inl r)] at hs
      exact ih _ _ M3 s3 (Ng.n (by omega)) hs
    · rw [if_pos (.inr (Int32.not_le.mpr r2))] at hs
      exact ih _ _ M3 s3 (Ng.n (by omega)) hs
    · rw [if_neg (fun z => z.elim r (fun y => y (Int32.not_lt.mp r2)))] at hs
      exact ih _ _ M3 s3 nb hs
theorem tX12_share {i : Int32} (L : Lay M la lb pa pb0 rl) (R : RCo M c F) (O : COk c F) (S : RSt (mi M 162) (cn c) (ch c) T) (TO : TOk c T) (hd : 1 ≤ d) : R0 g YX12_share d [.ref 130, .int i] M (QR (if sIn i (nI (ch c)) then (if cMin c (dOr (td (tvOf (cn c) T)) 6) = 0 then 0 else (cMin c (td (tvOf (cn c) T) i.toNatClampNeg) * 1000) / cMin c (dOr (td (tvOf (cn c) T)) 6)) else -1) M) := by
  have h10 := O.1
  have h6 := O.2.1
  have s1 : Sc M (wi M 130 0 0) := Sc.t0
  have L1 := s1.1.lay L
  have R1 := R.sc s1
  have S1 := S.sc h10 s1
  have ob130 : ob (wi M 130 0 0) 130 12 := L1.s (a := 130) rfl (by decide)
  refine R0.of (by decide +kernel) (Nat.le_of_ble_eq_true rfl) rfl (qX12_share_0 L rfl (K0.ans (d1 := d - 1) (by omega) (tX12_isHall L1 R1) ?_))
  cases q : sIn i (nI (ch c))
  · exact qX12_share_10 L1 (fun z => absurd rfl z) (fun _ => ⟨rfl, s1⟩)
  · obtain ⟨hl, hh, rfl⟩ := sIn_of (by omega) q
    rw [if_pos rfl, nI_clamp (by omega)]
    refine qX12_share_10 L1 (fun _ => K0.ans (d1 := d - 1) (by omega) (tX12_inDrawers L1 R1 O S1 TO) (qX12_share_20 ob130 (K0.ans (d1 := d - 1) (by omega) (tX12_minutesOf L1 R1 O) (qX12_share_23 L1 (fun r => K0.ans (d1 := d - 1) (by omega) (tX12_drawerOf L1 R1 O S1 TO (by omega)) (qX12_share_41 ob130 (K0.ans (d1 := d - 1) (by omega) (tX12_minutesOf L1 R1 O) (qX12_share_44 r ⟨?_, s1⟩)))) (fun r => ⟨?_, s1⟩))))) (fun z => absurd z (by decide))
    · rw [if_neg r, Int32.mul_comm]
    · rw [if_pos r]
end A1
