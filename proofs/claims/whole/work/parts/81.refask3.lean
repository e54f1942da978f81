/-! ===== the reference: the ride, tastes, what was seen ===== -/
/-- what was seen, kept at o -/
def RSe (M : MM) (o : Nat) (w : SV) : Prop := w.1 ≤ 8 ∧ mi M 159 o = nI w.1 ∧ ∀ k, k < w.1 → mi M 160 (8 * o + k) = w.2.1 k ∧ mi M 161 (8 * o + k) = b2i (w.2.2 k)
theorem RSe.fr {S : Nat → Prop} {M M1 : MM} {o : Nat} {w : SV} (h : RSe M o w) (F1 : Fr S M M1) (hS : ∀ b, 159 ≤ b → b ≤ 161 → ¬ S b) : RSe M1 o w := by
  unfold RSe
  rw [F1.i (hS 159 (by omega) (by omega)), F1.i (hS 160 (by omega) (by omega)), F1.i (hS 161 (by omega) (by omega))]
  exact h
theorem pow_bit : ∀ h, h ≤ 6 → (1 : Int32) <<< (nI h &&& 31) = nI (2 ^ h) := by decide +kernel
theorem sHL_one {srt len : Nat → Int32} {F : (Nat → Int32) → Int32} {k : Nat} (hk : k < 32) : ∀ n, n ≤ 32 → sHL srt len F ((1 : Int32) <<< (nI k &&& 31)) n = if k < n then ((if F (mkE (srt k) (len k) 0 10) = 0 then 0 else (1 : Int32) <<< (nI k &&& 31)), 1, srt k) else (0, 0, 10)
  | 0, _ => by rw [if_neg (by omega)]; rfl
  | n + 1, hn => by
    have ih := sHL_one (srt := srt) (len := len) (F := F) hk n (by omega)
    rw [sHL, b_one hk (by omega)]
    by_cases e : n = k
    · subst e
      have ih0 : sHL srt len F ((1 : Int32) <<< (nI n &&& 31)) n = (0, 0, 10) := ih.trans (if_neg (by omega))
      rw [decide_eq_true rfl, if_pos rfl, ih0, if_pos (show n < n + 1 by omega)]
      show ((if F (mkE (srt n) (len n) 0 10) = 0 then (0 : Int32) else 0 ||| (1 : Int32) <<< (nI n &&& 31)), 0 + 1, srt n) = _
      rw [Int32.zero_or]
    · rw [decide_eq_false e, if_neg (by decide), ih]
      by_cases q : k < n
      · rw [if_pos q, if_pos (show k < n + 1 by omega)]
      · rw [if_neg q, if_neg (show ¬ k < n + 1 by omega)]
theorem bit_nz : ∀ k, k < 32 → ¬ (1 : Int32) <<< (nI k &&& 31) = 0 := by decide +kernel
section A3
variable {g : GG} {d : Nat} {M : MM} {la lb pa pb0 rl : Nat} {c : CD} {F : Nat → (Nat → Int32) → Int32} {T : TT} {w : SV}
theorem cRow_eq {i : Nat} {v : TV} (hi : i < ch c) : cRow c v i = tp v &&& (cTk c i (tp v) ^^^ (-1)) := by unfold cRow; rw [if_pos hi]
theorem tX12_ride (L : Lay M la lb pa pb0 rl) (R : RCo M c F) (O : COk c F) (S : RSt (mi M 162) (cn c) (ch c) T) (TO : TOk c T) (hd : 6 ≤ d) : R0 g YX12_ride d [.ref 130] M (QR (rideF c (tvOf (cn c) T) (2 ^ ch c) 0 (-1)) M) := by
  have h10 := O.1
  have h6 := O.2.1
  have s1 : Sc M (wi M 130 0 0) := Sc.t0
  have p64 : 2 ^ ch c ≤ 64 := Nat.le_trans (Nat.pow_le_pow_right (n := 2) (by decide) h6) (by decide)
  refine R0.of (by decide +kernel) (Nat.le_of_ble_eq_true rfl) rfl (qX12_ride_0 L rfl ?_)
  have key := up0 (p := fun k => ∀ b M2, Sc M M2 → (b = -1 ∨ lowR b) → rideF c (tvOf (cn c) T) (2 ^ ch c - k) k b = rideF c (tvOf (cn c) T) (2 ^ ch c) 0 (-1) → E0 g YX12_ride d 9 [(0, .ref 130), (1, .int b), (2, .int (nI k))] [] M2 (QR (rideF c (tvOf (cn c) T) (2 ^ ch c) 0 (-1)) M)) (2 ^ ch c) (fun b M2 s2 nb hs => ?_) (fun k hk ih b M2 s2 nb hs => ?_)
  · exact key (-1) _ s1 (.inl rfl) rfl
  · have R2 := R.sc s2
    have ge : ((1 : Int32) <<< ((mi M2 132 1) &&& 31)) ≤ nI (2 ^ ch c) := by rw [R2.2.1, pow_bit _ h6]; exact Int32.le_refl _
    rw [Nat.sub_self] at hs
    exact qX12_ride_9 (s2.1.lay L) (fun _ => ⟨by rw [← hs]; rfl, s2⟩) (fun z => absurd ge z) (fun z => absurd ge z)
  · have R2 := R.sc s2
    have L2 := s2.1.lay L
    have lt : ¬ ((1 : Int32) <<< ((mi M2 132 1) &&& 31)) ≤ nI k := by rw [R2.2.1, pow_bit _ h6, nI_leI (by omega) (by omega)]; omega
    rw [show 2 ^ ch c - k = (2 ^ ch c - (k + 1)) + 1 by omega, rideF] at hs
    have lk : lowR (nI k) := ⟨k, by omega, rfl⟩
    have ngb : Ng b := by rcases nb with z | z; exact .inl z; exact z.nn.1
    rw [← nI_1] at ih
    -- whether all is seen
    have all : (b = -1 ∨ jBit (nI k) < jBit b) → E0 g YX12_ride d 44 [(0, .ref 130), (1, .int b), (2, .int (nI k)), (3, .int 0), (4, .int 0)] [] M2 (QR (rideF c (tvOf (cn c) T) (2 ^ ch c) 0 (-1)) M) := fun rb => by
      have key2 := up0 (p := fun i => ∀ s M3, Sc M M3 → seenF c (tvOf (cn c) T) (nI k) (ch c - i) i s = cSeen c (tvOf (cn c) T) (nI k) → E0 g YX12_ride d 44 [(0, .ref 130), (1, .int b), (2, .int (nI k)), (3, .int s), (4, .int (nI i))] [] M3 (QR (rideF c (tvOf (cn c) T) (2 ^ ch c) 0 (-1)) M)) (ch c) (fun s M3 s3 hs2 => ?_) (fun i hi ih2 s M3 s3 hs2 => ?_)
      · exact key2 0 M2 s2 rfl
      · have R3 := R.sc s3
        have L3 := s3.1.lay L
        have ge : mi M3 132 1 ≤ nI (ch c) := by rw [R3.2.1]; exact Int32.le_refl _
        rw [Nat.sub_self] at hs2
        have hs2 : s = cSeen c (tvOf (cn c) T) (nI k) := hs2
        refine qX12_ride_44 L3 (fun _ => K0.ans (d1 := d - 1) (by omega) (tX12_allShots L3 R3) (qX12_ride_111 (fun y => ?_) (fun y => ?_))) (fun z => absurd ge z) (fun z => absurd ge z) <;> rw [hs2] at y
        · rw [if_neg (fun z => y z.2)] at hs
          exact ih b M3 s3 nb hs
        · rw [if_pos ⟨rb, y⟩] at hs
          exact ih _ M3 s3 (.inr lk) hs
      · have R3 := R.sc s3
        have L3 := s3.1.lay L
        have lt2 : ¬ mi M3 132 1 ≤ nI i := by rw [R3.2.1, nI_leI (by omega) (by omega)]; omega
        rw [show ch c - i = (ch c - (i + 1)) + 1 by omega, seenF] at hs2
        rw [← nI_1] at ih2
        refine qX12_ride_44 L3 (fun z => absurd z lt2) (fun _ r => ?_) (fun _ r => K0.set (d1 := d - 1) (by omega) (tX12_takesOut L3 R3 O hi (by omega)) ?_)
        · rw [bit_f _ (by omega)] at r
          rw [if_neg (by rw [r]; decide)] at hs2
          rw [Int32.or_zero]
          exact ih2 s M3 s3 hs2
        · rintro rv M4 ⟨rfl, F4⟩
          rw [bit_t _ (by omega)] at r
          have s4 : Sc M M4 := s3.trans (Sc.of F4 (fun b hb => ⟨by omega, by omega, by omega⟩))
          have L4 := s4.1.lay L
          have ep : mi M3 162 0 = tp (tvOf (cn c) T) := (S.sc h10 s3).1
          rw [if_pos r, cRow_eq hi] at hs2
          refine qX12_ride_84 L4 (K0.ans (d1 := d - 1) (by omega) (tX12_drawerOf L4 (R.sc s4) O (S.sc h10 s4) TO (by omega)) (qX12_ride_93 ?_))
          rw [ep]
          exact ih2 _ M4 s4 hs2
    refine qX12_ride_9 L2 (fun z => absurd z lt) (fun _ rb => all (.inl (ngb.lt.mp rb))) (fun _ rb => ?_)
    rw [ngb.lt] at rb
    have lb : lowR b := nb.resolve_left rb
    refine K0.ans (d1 := d - 1) (by omega) tX12_bits (qX12_ride_29 (K0.ans (d1 := d - 1) (by omega) tX12_bits (qX12_ride_33 (fun q => ?_) (fun q => ?_)))) <;> rw [bits_low lk, bits_low lb] at q
    · exact all (.inr q)
    · rw [if_neg (fun z => z.1.elim rb q)] at hs
      exact ih b M2 s2 nb hs
theorem cHat_one {hl k : Nat} (O : COk c F) (hh : hl < ch c) (hk : k < cn c) : cHat c hl ((1 : Int32) <<< (nI k &&& 31)) = if F hl (mkE (csrt c k) (clen c k) 0 10) = 0 then 0 else (1 : Int32) <<< (nI k &&& 31) := by
  have h10 := O.1
  unfold cHat
  rw [(sHat_law (row := (1 : Int32) <<< (nI k &&& 31)) O.2.2.1 h10 O.2.1 hh O.2.2.2.1 (cn c) (Nat.le_refl _)).1, sHL_one (by omega) _ (by omega), if_pos hk]
theorem tX12_taste {i o : Int32} (L : Lay M la lb pa pb0 rl) (R : RCo M c F) (O : COk c F) (hd : 5 ≤ d) : R0 g YX12_taste d [.ref 130, .int i, .int o] M (QR (if sIn i (nI (ch c)) = true ∧ sIn o (nI (ch c)) = true ∧ ¬ i = o then tasteF c i.toNatClampNeg o.toNatClampNeg (cn c) 0 0 else -1) M) := by
  have h10 := O.1
  have h6 := O.2.1
  have s1 : Sc M (wi M 130 0 0) := Sc.t0
  have L1 := s1.1.lay L
  have R1 := R.sc s1
  refine R0.of (by decide +kernel) (Nat.le_of_ble_eq_true rfl) rfl (qX12_taste_0 L rfl (K0.ans (d1 := d - 1) (by omega) (tX12_isHall L1 R1) ?_))
  cases q : sIn i (nI (ch c))
  · rw [if_neg (fun z => absurd z.1 (by decide))]
    exact qX12_taste_10 L1 (fun _ => ⟨rfl, s1⟩) (fun z => absurd rfl z)
  · obtain ⟨x, hx, rfl⟩ := sIn_of (by omega) q
    refine qX12_taste_10 L1 (fun z => absurd z (by decide)) (fun _ => K0.ans (d1 := d - 1) (by omega) (tX12_isHall L1 R1) ?_)
    cases q2 : sIn o (nI (ch c))
    · rw [if_neg (fun z => absurd z.2.1 (by decide))]
      exact qX12_taste_18 (fun _ => ⟨rfl, s1⟩) (fun z => absurd rfl z) (fun z => absurd rfl z)
    · obtain ⟨y, hy, rfl⟩ := sIn_of (by omega) q2
      refine qX12_taste_18 (fun z => absurd z (by decide)) (fun _ ne => ?_) (fun _ e => ⟨by rw [if_neg (fun z => z.2.2 e)], s1⟩)
      rw [if_pos ⟨rfl, rfl, ne⟩, nI_clamp (by omega), nI_clamp (by omega)]
      have key := up0 (p := fun k => ∀ m M2, Sc M M2 → tasteF c x y (cn c - k) k m = tasteF c x y (cn c) 0 0 → E0 g YX12_taste d 33 [(0, .ref 130), (1, .int (nI x)), (2, .int (nI y)), (3, .int m), (4, .int (nI k))] [] M2 (QR (tasteF c x y (cn c) 0 0) M)) (cn c) (fun m M2 s2 hs => ?_) (fun k hk ih m M2 s2 hs => ?_)
      · exact key 0 _ s1 rfl
      · have R2 := R.sc s2
        have ge : mi M2 132 0 ≤ nI (cn c) := by rw [R2.1]; exact Int32.le_refl _
        rw [Nat.sub_self] at hs
        exact qX12_taste_33 (s2.1.lay L) (fun _ => ⟨by rw [← hs]; rfl, s2⟩) (fun z => absurd ge z)
      · have R2 := R.sc s2
        have L2 := s2.1.lay L
        have lt : ¬ mi M2 132 0 ≤ nI k := by rw [R2.1, nI_leI (by omega) (by omega)]; omega
        rw [show cn c - k = (cn c - (k + 1)) + 1 by omega, tasteF, cHat_one O hx hk, cHat_one O hy hk] at hs
        rw [← nI_1] at ih
        refine qX12_taste_33 L2 (fun z => absurd z lt) (fun _ => K0.set (d1 := d - 1) (by omega) (tX12_hates L2 R2 O hx hk (by omega)) ?_)
        rintro rv M3 ⟨rfl, F3⟩
        have s3 : Sc M M3 := s2.trans (Sc.of F3 (fun b hb => ⟨by omega, by omega, by omega⟩))
        refine qX12_taste_55 (s3.1.lay L) (K0.set (d1 := d - 1) (by omega) (tX12_hates (s3.1.lay L) (R.sc s3) O hy hk (by omega)) ?_)
        rintro rv M4 ⟨rfl, F4⟩
        have s4 : Sc M M4 := s3.trans (Sc.of F4 (fun b hb => ⟨by omega, by omega, by omega⟩))
        have nz := bit_nz k (by omega)
        have e : ((if F x (mkE (csrt c k) (clen c k) 0 10) = 0 then 0 else (1 : Int32) <<< (nI k &&& 31)) = (if F y (mkE (csrt c k) (clen c k) 0 10) = 0 then 0 else (1 : Int32) <<< (nI k &&& 31))) ↔ (F x (mkE (csrt c k) (clen c k) 0 10) = 0 ↔ F y (mkE (csrt c k) (clen c k) 0 10) = 0) := by
          by_cases a : F x (mkE (csrt c k) (clen c k) 0 10) = 0 <;> by_cases b : F y (mkE (csrt c k) (clen c k) 0 10) = 0 <;> simp only [a, b, if_true, if_false] <;> simp [nz]
          intro z; exact nz z.symm
        refine qX12_taste_65 (fun r => ?_) (fun r => ?_) <;> rw [b2i_inj] at r
        · rw [if_neg (fun z => r (by rw [decide_eq_decide.mpr (e.mp z)]))] at hs
          rw [Int32.add_zero]
          exact ih m M4 s4 hs
        · have r : decide (F x (mkE (csrt c k) (clen c k) 0 10) = 0) = decide (F y (mkE (csrt c k) (clen c k) 0 10) = 0) := by
            have := congrArg (fun b => !b) r
            simpa using this
          rw [if_pos (e.mpr (decide_eq_decide.mp r))] at hs
          exact ih _ M4 s4 hs
theorem tX12_hallsAsSeen (L : Lay M la lb pa pb0 rl) (R : RCo M c F) (O : COk c F) (S : RSt (mi M 162) (cn c) (ch c) T) (W : RSe M 0 w) (hd : 6 ≤ d) : R0 g YX12_hallsAsSeen d [.ref 130] M (QR (cHalls c (tvOf (cn c) T) w) M) := by
  have h10 := O.1
  have h6 := O.2.1
  refine R0.of (by decide +kernel) (Nat.le_of_ble_eq_true rfl) rfl (qX12_hallsAsSeen_0 ?_)
  have key := up0 (p := fun k => ∀ s M2, Sc M M2 → hallF c (tvOf (cn c) T) w (ch c - k) k s = cHalls c (tvOf (cn c) T) w → E0 g YX12_hallsAsSeen d 4 [(0, .ref 130), (1, .int s), (2, .int (nI k))] [] M2 (QR (cHalls c (tvOf (cn c) T) w) M)) (ch c) (fun s M2 s2 hs => ?_) (fun k hk ih s M2 s2 hs => ?_)
  · exact key 0 M Sc.rf rfl
  · have R2 := R.sc s2
    have ge : mi M2 132 1 ≤ nI (ch c) := by rw [R2.2.1]; exact Int32.le_refl _
    rw [Nat.sub_self] at hs
    exact qX12_hallsAsSeen_4 (s2.1.lay L) (fun _ => ⟨by rw [← hs]; rfl, s2⟩) (fun z => absurd ge z)
  · have R2 := R.sc s2
    have L2 := s2.1.lay L
    have lt : ¬ mi M2 132 1 ≤ nI k := by rw [R2.2.1, nI_leI (by omega) (by omega)]; omega
    rw [show ch c - k = (ch c - (k + 1)) + 1 by omega, hallF, cRow_eq hk] at hs
    rw [← nI_1] at ih
    have ep : mi M2 162 0 = tp (tvOf (cn c) T) := (S.sc h10 s2).1
    refine qX12_hallsAsSeen_4 L2 (fun z => absurd z lt) (fun _ => K0.set (d1 := d - 1) (by omega) (tX12_takesOut L2 R2 O hk (by omega)) ?_)
    rintro rv M3 ⟨rfl, F3⟩
    have s3 : Sc M M3 := s2.trans (Sc.of F3 (fun b hb => ⟨by omega, by omega, by omega⟩))
    have L3 := s3.1.lay L
    have W3 : RSe M3 0 w := W.fr s3.1 (fun b h1 h2 => by omega)
    have w8 := W3.1
    refine qX12_hallsAsSeen_31 ?_
    rw [ep]
    generalize hrow : tp (tvOf (cn c) T) &&& (cTk c k (tp (tvOf (cn c) T)) ^^^ (-1)) = row at *
    have key2 := up0 (p := fun i => ∀ is : Bool, (is && sFit row w (w.1 - i) i) = sFit row w w.1 0 → E0 g YX12_hallsAsSeen d 41 [(0, .ref 130), (1, .int s), (2, .int (nI k)), (3, .int row), (4, .int (b2i is)), (5, .int (nI i))] [] M3 (QR (cHalls c (tvOf (cn c) T) w) M)) w.1 (fun is hi2 => ?_) (fun i hi ih2 is hi2 => ?_)
    · exact key2 true (by rw [Bool.true_and]; rfl)
    · have ge : mi M3 159 0 ≤ nI w.1 := by rw [W3.2.1]; exact Int32.le_refl _
      rw [Nat.sub_self, show sFit row w 0 w.1 = true from rfl, Bool.and_true] at hi2
      rw [← hi2] at hs
      refine qX12_hallsAsSeen_41 L3 (fun z => absurd ge z) (fun z => absurd ge z) (fun z => absurd ge z) (fun _ y => ?_) (fun _ y => ?_) (fun z => absurd ge z) (fun z => absurd ge z) (fun z => absurd ge z) (fun z => absurd ge z) (fun z => absurd ge z)
      · rw [b2i_z] at y
        rw [y, if_neg (by decide)] at hs
        rw [Int32.or_zero]
        exact ih s M3 s3 hs
      · rw [b2i_n] at y
        rw [y, if_pos rfl] at hs
        exact ih _ M3 s3 hs
    · have lt2 : ¬ mi M3 159 0 ≤ nI i := by rw [W3.2.1, nI_leI (by omega) (by omega)]; omega
      have hv : vp_in (nI i) 40 := vi (by omega) (by decide)
      obtain ⟨a1, a2⟩ := W3.2.2 i hi
      rw [Nat.mul_zero, Nat.zero_add] at a1 a2
      have e0 : mi M3 160 (nI i).toNatClampNeg = w.2.1 i := by rw [nI_clamp (by omega)]; exact a1
      have e1 : mi M3 161 (nI i).toNatClampNeg = b2i (w.2.2 i) := by rw [nI_clamp (by omega)]; exact a2
      rw [show w.1 - i = (w.1 - (i + 1)) + 1 by omega, sFit] at hi2
      rw [← nI_1] at ih2
      refine qX12_hallsAsSeen_41 L3 (fun _ _ => hv) (fun _ _ _ => hv) (fun _ _ _ => hv) (fun z => absurd z lt2) (fun z => absurd z lt2) (fun _ y => ?_) (fun _ y a b => ?_) (fun _ y a b => ?_) (fun _ y a b => ?_) (fun _ y a b => ?_)
      · rw [b2i_z] at y
        rw [y, Bool.false_and] at hi2
        exact ih2 false (by rw [Bool.false_and]; exact hi2)
      all_goals
        rw [e0] at a
        rw [e1] at b
        rw [b2i_n] at y
      · rw [y, decide_eq_false a, Bool.true_and] at hi2
        have hb : w.2.2 i = true := by cases z : w.2.2 i; rw [z] at b; exact absurd rfl b; rfl
        rw [hb, show ((false == true) : Bool) = false from rfl, Bool.false_and] at hi2
        exact ih2 false (by rw [Bool.false_and]; exact hi2)
      · rw [y, decide_eq_false a, Bool.true_and] at hi2
        have hb : w.2.2 i = false := by cases z : w.2.2 i; rfl; rw [z] at b; exact absurd b (by decide)
        rw [hb, show ((false == false) : Bool) = true from rfl, Bool.true_and] at hi2
        exact ih2 true (by rw [Bool.true_and]; exact hi2)
      · rw [y, decide_eq_true a, Bool.true_and] at hi2
        have hb : w.2.2 i = false := by cases z : w.2.2 i; rfl; rw [z] at b; exact absurd rfl b
        rw [hb, show ((true == false) : Bool) = false from rfl, Bool.false_and] at hi2
        exact ih2 false (by rw [Bool.false_and]; exact hi2)
      · rw [y, decide_eq_true a, Bool.true_and] at hi2
        have hb : w.2.2 i = true := by cases z : w.2.2 i; rw [z] at b; exact absurd b (by decide); rfl
        rw [hb, show ((true == true) : Bool) = true from rfl, Bool.true_and] at hi2
        exact ih2 true (by rw [Bool.true_and]; exact hi2)
theorem tX12_halls (L : Lay M la lb pa pb0 rl) (R : RCo M c F) (O : COk c F) (S : RSt (mi M 162) (cn c) (ch c) T) (W : RSe M 0 w) (hd : 7 ≤ d) : R0 g YX12_halls d [.ref 130] M (QR (cHalls c (tvOf (cn c) T) w) M) := by
  have s1 : Sc M (wi M 130 0 0) := Sc.t0
  refine R0.of (by decide +kernel) (Nat.le_of_ble_eq_true rfl) rfl (qX12_halls_0 L rfl (K0.set (d1 := d - 1) (by omega) (tX12_hallsAsSeen (s1.1.lay L) (R.sc s1) O (S.sc O.1 s1) (W.fr s1.1 (fun b h1 h2 => by omega)) (by omega)) ?_))
  rintro rv M2 ⟨rfl, s2⟩
  exact qX12_halls_9 ⟨rfl, s1.trans s2⟩
theorem tX12_see {i : Int32} {b : Bool} (L : Lay M la lb pa pb0 rl) (R : RCo M c F) (O : COk c F) (W : RSe M 0 w) (hd : 1 ≤ d) : R0 g YX12_see d [.ref 130, .int i, .int (b2i b)] M (fun rv M1 => rv = some (.int (b2i (sIn i (nI (cn c)) && decide (w.1 < 8)))) ∧ RSe M1 0 (if sIn i (nI (cn c)) = true ∧ w.1 < 8 then (w.1 + 1, (fun j => if j = w.1 then i else w.2.1 j), (fun j => if j = w.1 then b else w.2.2 j)) else w) ∧ mi M1 130 1 = mi M 130 1 ∧ mi M1 130 49 = mi M 130 49 ∧ (∀ j k, 0 < j → j < 5 → mi M1 159 j = mi M 159 j ∧ (k < 8 → mi M1 160 (8 * j + k) = mi M 160 (8 * j + k) ∧ mi M1 161 (8 * j + k) = mi M 161 (8 * j + k))) ∧ Fr (fun b => b = 130 ∨ b = 159 ∨ b = 160 ∨ b = 161) M M1) := by
  have h10 := O.1
  have s1 : Sc M (wi M 130 0 0) := Sc.t0
  have L1 := s1.1.lay L
  have W1 : RSe (wi M 130 0 0) 0 w := W.fr s1.1 (fun b h1 h2 => by omega)
  have w8 := W1.1
  have F1 : Fr (fun b => b = 130 ∨ b = 159 ∨ b = 160 ∨ b = 161) M (wi M 130 0 0) := Fr.rf.wi (.inl rfl)
  have same : ∀ b, b ≠ 130 → mi (wi M 130 0 0) b = mi M b := fun b hb => by funext j; rw [wi_at, if_neg (fun z => hb z.1)]
  have keep : ∀ j k, 0 < j → j < 5 → mi (wi M 130 0 0) 159 j = mi M 159 j ∧ (k < 8 → mi (wi M 130 0 0) 160 (8 * j + k) = mi M 160 (8 * j + k) ∧ mi (wi M 130 0 0) 161 (8 * j + k) = mi M 161 (8 * j + k)) := fun j k _ _ => by rw [same 159 (by omega), same 160 (by omega), same 161 (by omega)]; exact ⟨rfl, fun _ => ⟨rfl, rfl⟩⟩
  have e8 : mi (wi M 130 0 0) 159 0 = 8 ↔ w.1 = 8 := by rw [W1.2.1, show (8 : Int32) = nI 8 from rfl]; exact nI_eq (by omega) (by decide)
  refine R0.of (by decide +kernel) (Nat.le_of_ble_eq_true rfl) rfl (qX12_see_0 L rfl (K0.ans (d1 := d - 1) (by omega) (tX12_isShot L1 (R.sc s1)) ?_))
  have ew : (mi (wi M 130 0 0) 159 0).toNatClampNeg = w.1 := by rw [W1.2.1, nI_clamp (by omega)]
  refine qX12_see_10 (M1 := wi (wi M 130 0 0) 160 w.1 i) (M2 := wi (wi (wi M 130 0 0) 160 w.1 i) 161 w.1 (b2i b)) (M3 := wi (wi (wi (wi M 130 0 0) 160 w.1 i) 161 w.1 (b2i b)) 159 0 (nI (w.1 + 1))) L1 (by rw [ew]) (by rw [wi_at, if_neg (by omega), ew, nar_b]) (by rw [wi_at, if_neg (by omega), wi_at, if_neg (by omega), W1.2.1, nI_1]) (fun _ r => by rw [W1.2.1]; exact vi (by omega) (by decide)) (fun _ r => by rw [wi_at, if_neg (by omega), W1.2.1]; exact vi (by omega) (by decide)) (fun r => ?_) (fun r r2 => ?_) (fun r r2 => ?_)
  · rw [b2i_z] at r
    rw [r, if_neg (fun z => absurd z.1 (by decide))]
    exact ⟨rfl, W1, s1.2.1, s1.2.2.1, keep, F1⟩
  · rw [b2i_n] at r
    rw [e8] at r2
    rw [r, decide_eq_true (show w.1 < 8 by omega), if_pos ⟨rfl, by omega⟩]
    refine ⟨rfl, ⟨by show w.1 + 1 ≤ 8; omega, by rw [wi_at, if_pos ⟨rfl, rfl⟩], fun k hk => ?_⟩, ?_, ?_, fun j k h0 h5 => ⟨?_, fun h8 => ⟨?_, ?_⟩⟩, ((F1.wi (by omega)).wi (by omega)).wi (by omega)⟩
    · have hk : k < w.1 + 1 := hk
      show _ = (if k = w.1 then i else w.2.1 k) ∧ _ = b2i (if k = w.1 then b else w.2.2 k)
      rw [Nat.mul_zero, Nat.zero_add]
      by_cases e : k = w.1
      · refine ⟨?_, ?_⟩
        · rw [wi_at, if_neg (by omega), wi_at, if_neg (by omega), wi_at, if_pos ⟨rfl, e⟩, if_pos e]
        · rw [wi_at, if_neg (by omega), wi_at, if_pos ⟨rfl, e⟩, if_pos e]
      · have := W1.2.2 k (by omega)
        rw [Nat.mul_zero, Nat.zero_add] at this
        refine ⟨?_, ?_⟩
        · rw [wi_at, if_neg (by omega), wi_at, if_neg (by omega), wi_at, if_neg (fun z => e z.2), if_neg e]; exact this.1
        · rw [wi_at, if_neg (by omega), wi_at, if_neg (fun z => e z.2), wi_at, if_neg (by omega), if_neg e]; exact this.2
    · rw [wi_at, if_neg (by omega), wi_at, if_neg (by omega), wi_at, if_neg (by omega)]; exact s1.2.1
    · rw [wi_at, if_neg (by omega), wi_at, if_neg (by omega), wi_at, if_neg (by omega)]; exact s1.2.2.1
    · rw [wi_at, if_neg (by omega), wi_at, if_neg (by omega), wi_at, if_neg (by omega), same 159 (by omega)]
    · rw [wi_at, if_neg (by omega), wi_at, if_neg (by omega), wi_at, if_neg (by omega), same 160 (by omega)]
    · rw [wi_at, if_neg (by omega), wi_at, if_neg (by omega), wi_at, if_neg (by omega), same 161 (by omega)]
  · rw [e8] at r2
    rw [decide_eq_false (show ¬ w.1 < 8 by omega), Bool.and_false, if_neg (fun z => absurd z.2 (by omega))]
    exact ⟨rfl, W1, s1.2.1, s1.2.2.1, keep, F1⟩
end A3
