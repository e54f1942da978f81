/-! ===== the reference: which shot to ask for, the longest row, kin ===== -/
theorem lowR.ob {x : Int32} {k : Nat} (h : lowR x) (hk : k < 10) : lowR (x ||| ((1 : Int32) <<< (nI k &&& 31))) := small_of fun i h1 h2 => by
  obtain ⟨m, m1, rfl⟩ := h
  rw [b_or, b_one (by omega) h2, decide_eq_false (by omega), bt_nI, Nat.testBit_lt_two_pow (Nat.lt_of_lt_of_le m1 (Nat.pow_le_pow_right (n := 2) (by decide) (show 10 ≤ i from h1))), Bool.and_false, Bool.or_false]
theorem hallF_low {c : CD} {v : TV} {w : SV} : ∀ j k s, k + j ≤ 6 → lowR s → lowR (hallF c v w j k s)
  | 0, _, _, _, h => h
  | j + 1, k, s, hk, h => by
    unfold hallF
    refine hallF_low j (k + 1) _ (by omega) ?_
    split
    · exact h.ob (by omega)
    · exact h
theorem bt_01 (x : Int32) {k : Nat} (hk : k < 32) : ((x >>> (nI k &&& 31)) &&& 1) = if bt x k then 1 else 0 := bit_v x hk
theorem jBit_add : ∀ s, s < 10 → ∀ m, m < 1024 → bt (nI m) s = false → jBit (nI m ||| ((1 : Int32) <<< (nI s &&& 31))) = jBit (nI m) + 1 := by decide +kernel
section A4
variable {g : GG} {d : Nat} {M : MM} {la lb pa pb0 rl : Nat} {c : CD} {F : Nat → (Nat → Int32) → Int32} {T : TT} {w : SV}
theorem tX12_ask (L : Lay M la lb pa pb0 rl) (R : RCo M c F) (O : COk c F) (S : RSt (mi M 162) (cn c) (ch c) T) (W : RSe M 0 w) (hd : 7 ≤ d) : R0 g YX12_ask d [.ref 130] M (QR (askF c (tvOf (cn c) T) (cHalls c (tvOf (cn c) T) w) (cn c) 0 (jBit (cHalls c (tvOf (cn c) T) w)) (-1)) M) := by
  have h10 := O.1
  have h6 := O.2.1
  have s1 : Sc M (wi M 130 0 0) := Sc.t0
  refine R0.of (by decide +kernel) (Nat.le_of_ble_eq_true rfl) rfl (qX12_ask_0 L rfl (K0.set (d1 := d - 1) (by omega) (tX12_hallsAsSeen (s1.1.lay L) (R.sc s1) O (S.sc O.1 s1) (W.fr s1.1 (fun b h1 h2 => by omega)) (by omega)) ?_))
  rintro rv M2 ⟨rfl, s2'⟩
  have s2 := s1.trans s2'
  have low : lowR (cHalls c (tvOf (cn c) T) w) := hallF_low _ _ _ (by omega) ⟨0, by decide, rfl⟩
  generalize hset : cHalls c (tvOf (cn c) T) w = set at *
  refine qX12_ask_9 (K0.ans (d1 := d - 1) (by omega) tX12_bits (qX12_ask_14 ?_))
  rw [bits_low low]
  have key := up0 (p := fun k => ∀ m b M3, Sc M M3 → askF c (tvOf (cn c) T) set (cn c - k) k m b = askF c (tvOf (cn c) T) set (cn c) 0 (jBit set) (-1) → E0 g YX12_ask d 23 [(0, .ref 130), (1, .int set), (2, .int (jBit set)), (3, .int m), (4, .int b), (5, .int (nI k))] [] M3 (QR (askF c (tvOf (cn c) T) set (cn c) 0 (jBit set) (-1)) M)) (cn c) (fun m b M3 s3 hs => ?_) (fun k hk ih m b M3 s3 hs => ?_)
  · exact key _ _ M2 s2 rfl
  · have R3 := R.sc s3
    have ge : mi M3 132 0 ≤ nI (cn c) := by rw [R3.1]; exact Int32.le_refl _
    rw [Nat.sub_self] at hs
    exact qX12_ask_23 (s3.1.lay L) (fun _ => ⟨by rw [← hs]; rfl, s3⟩) (fun z => absurd ge z)
  · have R3 := R.sc s3
    have lt : ¬ mi M3 132 0 ≤ nI k := by rw [R3.1, nI_leI (by omega) (by omega)]; omega
    rw [show cn c - k = (cn c - (k + 1)) + 1 by omega, askF] at hs
    rw [← nI_1] at ih
    refine qX12_ask_23 (s3.1.lay L) (fun z => absurd z lt) (fun _ => ?_)
    have key2 := up0 (p := fun i => ∀ q M4, Sc M M4 → shwF c (tvOf (cn c) T) set (nI k) (ch c - i) i q = shwF c (tvOf (cn c) T) set (nI k) (ch c) 0 0 → E0 g YX12_ask d 40 [(0, .ref 130), (1, .int set), (2, .int (jBit set)), (3, .int m), (4, .int b), (5, .int (nI k)), (6, .int q), (7, .int (nI i))] [] M4 (QR (askF c (tvOf (cn c) T) set (cn c) 0 (jBit set) (-1)) M)) (ch c) (fun q M4 s4 hq => ?_) (fun i hi ih2 q M4 s4 hq => ?_)
    · exact key2 0 M3 s3 rfl
    · have R4 := R.sc s4
      have ge : mi M4 132 1 ≤ nI (ch c) := by rw [R4.2.1]; exact Int32.le_refl _
      rw [Nat.sub_self] at hq
      have hq : q = shwF c (tvOf (cn c) T) set (nI k) (ch c) 0 0 := hq
      have eg : (if q < (jBit set - q) then (jBit set - q) else q) = cGrt c (tvOf (cn c) T) set (nI k) := by rw [hq]; rfl
      refine qX12_ask_40 (s4.1.lay L) (by omega) (fun _ r => ?_) (fun _ r => ?_) (fun z => absurd ge z) (fun z => absurd ge z) <;> rw [eg] at *
      · rw [if_neg (Int32.not_le.mpr r)] at hs
        exact ih _ _ M4 s4 hs
      · rw [if_pos (Int32.not_lt.mp r)] at hs
        exact ih _ _ M4 s4 hs
    · have R4 := R.sc s4
      have L4 := s4.1.lay L
      have lt2 : ¬ mi M4 132 1 ≤ nI i := by rw [R4.2.1, nI_leI (by omega) (by omega)]; omega
      rw [show ch c - i = (ch c - (i + 1)) + 1 by omega, shwF, cRow_eq hi, bt_01 _ (show k < 32 by omega)] at hq
      rw [← nI_1] at ih2
      have ep : mi M4 162 0 = tp (tvOf (cn c) T) := (S.sc h10 s4).1
      refine qX12_ask_40 L4 (by omega) (fun z => absurd z lt2) (fun z => absurd z lt2) (fun _ r => ?_) (fun _ r => K0.set (d1 := d - 1) (by omega) (tX12_takesOut L4 R4 O hi (by omega)) ?_)
      · rw [bit_f _ (by omega)] at r
        rw [if_neg (by rw [r]; decide)] at hq
        rw [Int32.add_zero]
        exact ih2 q M4 s4 hq
      · rintro rv M5 ⟨rfl, F5⟩
        rw [bit_t _ (by omega)] at r
        have s5 : Sc M M5 := s4.trans (Sc.of F5 (fun b hb => ⟨by omega, by omega, by omega⟩))
        rw [if_pos r] at hq
        rw [ep]
        refine qX12_ask_81 (fun y => ?_) (fun y => ?_) <;> rw [and_bit _ (by omega)] at y
        · rw [if_neg (by rw [y]; decide)] at hq
          exact ih2 _ M5 s5 hq
        · rw [if_pos (by cases z : bt (tp (tvOf (cn c) T) &&& (cTk c i (tp (tvOf (cn c) T)) ^^^ (-1))) k; exact absurd z y; rfl)] at hq
          exact ih2 _ M5 s5 hq
theorem tX12_unlikeFrom {i : Nat} (L : Lay M la lb pa pb0 rl) (R : RCo M c F) (O : COk c F) (S : RSt (mi M 162) (cn c) (ch c) T) (hi : i ≤ cn c) : R0 g YX12_unlikeFrom d [.ref 130, .int (nI i)] M (Ans (jBit (sUn (csrt c) (tp (tvOf (cn c) T)) (cn c - i) i 0)) M) := by
  have h10 := O.1
  have e : mi M 132 0 = nI (cn c) := R.1
  refine R0.of (by decide +kernel) (Nat.le_of_ble_eq_true rfl) rfl (qX12_unlikeFrom_0 ?_)
  have key := up (p := fun k => ∀ met, lowR met → sUn (csrt c) (tp (tvOf (cn c) T)) (cn c - k) k met = sUn (csrt c) (tp (tvOf (cn c) T)) (cn c - i) i 0 → E0 g YX12_unlikeFrom d 7 [(0, .ref 130), (2, .int met), (3, .int (jBit met)), (4, .int (nI k))] [] M (Ans (jBit (sUn (csrt c) (tp (tvOf (cn c) T)) (cn c - i) i 0)) M)) (cn c) (fun met lm hs => ?_) (fun k hk ih met lm hs => ?_)
  · exact key i hi 0 ⟨0, by decide, rfl⟩ rfl
  · have ge : mi M 132 0 ≤ nI (cn c) := by rw [e]; exact Int32.le_refl _
    rw [Nat.sub_self] at hs
    exact qX12_unlikeFrom_7 L (fun z => absurd ge z) (fun z => absurd ge z) (fun _ => ⟨by rw [← hs]; rfl, rfl⟩) (fun z => absurd ge z) (fun z => absurd ge z) (fun z => absurd ge z)
  · have lt : ¬ mi M 132 0 ≤ nI k := by rw [e, nI_leI (by omega) (by omega)]; omega
    have hv : vp_in (nI k) 20 := vi (by omega) (by decide)
    obtain ⟨s, s9, es⟩ := O.2.2.1 k hk
    have e5 : mi M 135 (nI k).toNatClampNeg = nI s := by rw [nI_clamp (by omega), (R.2.2.1 k hk).1, es]
    have ep : mi M 162 0 = tp (tvOf (cn c) T) := S.1
    rw [show cn c - k = (cn c - (k + 1)) + 1 by omega, sUn, es] at hs
    rw [← nI_1] at ih
    refine qX12_unlikeFrom_7 L (fun _ _ => hv) (fun _ _ _ => hv) (fun z => absurd z lt) (fun _ a b => ?_) (fun _ a b => ⟨?_, rfl⟩) (fun _ a => ?_) <;> rw [ep, bit_z _ (by omega)] at a
    · have a : bt (tp (tvOf (cn c) T)) k = true := by cases z : bt (tp (tvOf (cn c) T)) k; exact absurd z a; rfl
      rw [e5, bit_f _ (by omega)] at b
      rw [if_pos a, if_pos ((and_bit _ (by omega)).mpr b)] at hs
      rw [e5]
      have jb : jBit (met ||| ((1 : Int32) <<< (nI s &&& 31))) = jBit met + 1 := by
        obtain ⟨m, m1, rfl⟩ := lm
        exact jBit_add s (by omega) m m1 b
      rw [← jb]
      exact ih _ (lm.ob (by omega)) hs
    · have a : bt (tp (tvOf (cn c) T)) k = true := by cases z : bt (tp (tvOf (cn c) T)) k; exact absurd z a; rfl
      rw [e5, bit_t _ (by omega)] at b
      rw [if_pos a, if_neg (fun z => by rw [and_bit _ (by omega), b] at z; exact absurd z (by decide))] at hs
      rw [← hs]
    · rw [if_neg (by rw [a]; decide)] at hs
      exact ih _ lm hs
theorem sUn_skip {srt : Nat → Int32} {row : Int32} {j i : Nat} (h : bt row i = false) : sUn srt row (j + 1) i 0 = sUn srt row j (i + 1) 0 := by rw [sUn, if_neg (by rw [h]; decide)]
theorem longF_skip {v : TV} {i j : Nat} {m : Int32} (hij : i + (j + 1) = cn c) (h : bt (tp v) i = false) (hm : ¬ m < 0) : longF c v (j + 1) i m = longF c v j (i + 1) m := by
  rw [longF]
  have e1 : cn c - i = (cn c - (i + 1)) + 1 := by omega
  rw [e1, sUn_skip h]
  cases j with
  | zero =>
    have e0 : cn c - (i + 1) = 0 := by omega
    rw [e0]
    have : jBit (sUn (csrt c) (tp v) 0 (i + 1) 0) = 0 := by
      show jBit 0 = 0
      decide
    rw [this, if_neg hm]
  | succ j =>
    rw [longF, longF]
    congr 1
    generalize jBit (sUn (csrt c) (tp v) (cn c - (i + 1)) (i + 1) 0) = X
    by_cases z : m < X
    · rw [if_pos z, if_neg (Int32.lt_irrefl)]
    · rw [if_neg z, if_neg z]
theorem tX12_longest (L : Lay M la lb pa pb0 rl) (R : RCo M c F) (O : COk c F) (S : RSt (mi M 162) (cn c) (ch c) T) (hd : 1 ≤ d) : R0 g YX12_longest d [.ref 130] M (QR (longF c (tvOf (cn c) T) (cn c) 0 0) M) := by
  have h10 := O.1
  have s1 : Sc M (wi M 130 0 0) := Sc.t0
  have L1 := s1.1.lay L
  have R1 := R.sc s1
  have S1 := S.sc h10 s1
  refine R0.of (by decide +kernel) (Nat.le_of_ble_eq_true rfl) rfl (qX12_longest_0 L rfl ?_)
  have ep : mi (wi M 130 0 0) 162 0 = tp (tvOf (cn c) T) := S1.1
  have key := up0 (p := fun k => ∀ m, ¬ m < 0 → longF c (tvOf (cn c) T) (cn c - k) k m = longF c (tvOf (cn c) T) (cn c) 0 0 → E0 g YX12_longest d 9 [(0, .ref 130), (1, .int m), (2, .int (nI k))] [] (wi M 130 0 0) (QR (longF c (tvOf (cn c) T) (cn c) 0 0) M)) (cn c) (fun m hm hs => ?_) (fun k hk ih m hm hs => ?_)
  · exact key 0 (by decide) rfl
  · have ge : mi (wi M 130 0 0) 132 0 ≤ nI (cn c) := by rw [R1.1]; exact Int32.le_refl _
    rw [Nat.sub_self] at hs
    exact qX12_longest_9 L1 (fun _ => ⟨by rw [← hs]; rfl, s1⟩) (fun z => absurd ge z) (fun z => absurd ge z)
  · have lt : ¬ mi (wi M 130 0 0) 132 0 ≤ nI k := by rw [R1.1, nI_leI (by omega) (by omega)]; omega
    rw [show cn c - k = (cn c - (k + 1)) + 1 by omega] at hs
    rw [← nI_1] at ih
    refine qX12_longest_9 L1 (fun z => absurd z lt) (fun _ a => ?_) (fun _ a => K0.ans (d1 := d - 1) (by omega) (tX12_unlikeFrom L1 R1 O S1 (by omega)) (qX12_longest_39 hd ?_)) <;> rw [ep] at a
    · rw [bit_f _ (by omega)] at a
      rw [longF_skip (by omega) a hm] at hs
      exact ih m hm hs
    · rw [longF] at hs
      refine ih _ ?_ hs
      split
      · rename_i z
        exact fun y => hm (Int32.lt_trans z y)
      · exact hm
end A4
