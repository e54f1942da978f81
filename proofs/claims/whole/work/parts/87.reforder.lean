/-! ===== the reference: the best order; a bid at rest ===== -/
def ORf (M : MM) (tot : Nat) (s : Int32 × (Nat → Int32)) : Prop := mi M 130 56 = s.1 ∧ (s.1 = -1 ∨ ∀ i, i < tot → mi M 171 i = s.2 i)
theorem pred6 : ∀ m, m ≤ 6 → (nI m - 1).toInt = (m : Int) - 1 := by decide +kernel
section OD
variable {g : GG} {la lb pa pb0 rl : Nat} {c : CD} {F : Nat → (Nat → Int32) → Int32} {T : TT}
theorem tX12_orders (O : COk c F) : ∀ (f k : Nat) (A : Nat → Bool) (pr m : Int32) (path : Nat → Int32) (s : Int32 × (Nat → Int32)) (M : MM) (d : Nat), Lay M la lb pa pb0 rl → RCo M c F → cntB A (ch c) = f → k + f ≤ 6 → (∀ i, i < k → mi M 170 i = path i) → ORf M (k + f) s → f + 6 ≤ d →
    R0 g YX12_orders d [.ref 130, .int (nI k), .int (pb A (ch c)), .int pr, .int m] M (fun rv M1 => rv = none ∧ ORf M1 (k + f) (ordT c f k A pr m path s) ∧ (∀ i, i < k → mi M1 170 i = path i) ∧ Sc M M1)
  | 0, k, A, pr, m, path, s, M, d, L, R, hc, h6, hp, hO, hd => by
    have h6' := O.2.1
    have hz : pb A (ch c) = 0 := (pb_0 (by omega)).mpr hc
    refine R0.of (by decide +kernel) (Nat.le_of_ble_eq_true rfl) rfl (qX12_orders_0 L rfl (fun r => absurd hz r) (fun _ r => ?_) (fun _ r => ⟨rfl, ?_, hp, Sc.rf⟩))
    · rw [hO.1] at r
      have s1 : Sc M (wi M 130 56 m) := Sc.rf.w (by omega) (by omega)
      have key := up0 (p := fun i => ∀ M1, Sc M M1 → mi M1 130 56 = m → (∀ j, j < i → mi M1 171 j = mi M 170 j) → mi M1 170 = mi M 170 → E0 g YX12_orders d 23 [(0, .ref 130), (5, .int (nI i))] [] M1 (fun rv M1 => rv = none ∧ ORf M1 (k + 0) (ordT c 0 k A pr m path s) ∧ (∀ i, i < k → mi M1 170 i = path i) ∧ Sc M M1)) 6 (fun M1 s2 a b e => ?_) (fun i hi ih M1 s2 a b e => ?_)
      · exact key _ s1 (by rw [wi_at, if_pos ⟨rfl, rfl⟩]) (fun j hj => absurd hj (by omega)) (by funext j; rw [wi_at, if_neg (by omega)])
      · refine qX12_orders_23 (s2.1.lay L) rfl (fun z => absurd (by decide) z) (fun z => absurd (by decide) z) (fun _ => ⟨rfl, ?_, fun i hi => by rw [e]; exact hp i hi, s2⟩) (fun z => absurd (by decide) z)
        rw [ordT, if_neg (Int32.not_le.mpr r)]
        exact ⟨a, .inr fun i hi => by rw [b i (by omega)]; exact hp i (by omega)⟩
      · refine qX12_orders_23 (s2.1.lay L) rfl (fun _ => vi hi (by decide)) (fun _ => vi hi (by decide)) (fun z => absurd z (ngl 6 rfl (by decide) hi)) (fun _ => ?_)
        rw [nI_1, nI_clamp (by omega)]
        have F3 : Fr (inC 171) M1 (wi M1 171 i (mi M1 170 i)) := Fr.rf.wi rfl
        refine ih _ (s2.trans (Sc.of F3 (fun b hb => ⟨by omega, by omega, by omega⟩))) (by rw [F3.i (by omega)]; exact a) (fun j hj => ?_) (by rw [F3.i (by omega)]; exact e)
        rw [wi_at]
        by_cases q : j = i
        · rw [if_pos ⟨rfl, q⟩, q, e]
        · rw [if_neg (fun z => q z.2)]; exact b j (by omega)
    · rw [hO.1] at r
      rw [ordT, if_pos (Int32.not_lt.mp r)]
      exact hO
  | f + 1, k, A, pr, m, path, s, M, d, L, R, hc, h6, hp, hO, hd => by
    have hc6 := O.2.1
    have h10 := O.1
    have hz : ¬ pb A (ch c) = 0 := fun z => by have := (pb_0 (by omega)).mp z; omega
    refine R0.of (by decide +kernel) (Nat.le_of_ble_eq_true rfl) rfl (qX12_orders_0 L rfl (fun _ => ?_) (fun r => absurd r hz) (fun r => absurd r hz))
    have key := up0 (p := fun h => ∀ M1 s1, Sc M M1 → ORf M1 (k + (f + 1)) s1 → (∀ i, i < k → mi M1 170 i = path i) → E0 g YX12_orders d 54 [(0, .ref 130), (1, .int (nI k)), (2, .int (pb A (ch c))), (3, .int pr), (4, .int m), (5, .int (nI h))] [] M1 (fun rv M2 => rv = none ∧ ORf M2 (k + (f + 1)) (loopO (fun h s => if A h then ordT c f (k + 1) (fun i => A i && !(i == h)) (rowA c h pr) (m + cMin c (rowA c h pr)) (fun i => if i = k then nI h else path i) s else s) (ch c - h) h s1) ∧ (∀ i, i < k → mi M2 170 i = path i) ∧ Sc M M2)) (ch c) (fun M1 s1 sc O1 H1 => ?_) (fun h hh ih M1 s1 sc O1 H1 => ?_)
    · rw [ordT]
      exact key M s Sc.rf hO hp
    · have R1 := R.sc sc
      have le : mi M1 132 1 ≤ nI (ch c) := by rw [R1.2.1]; exact Int32.le_refl _
      rw [Nat.sub_self]
      exact qX12_orders_54 (sc.1.lay L) (fun _ => ⟨rfl, O1, H1, sc⟩) (fun r => absurd le r) (fun r => absurd le r)
    · have R1 := R.sc sc
      have L1 := sc.1.lay L
      have nle : ¬ mi M1 132 1 ≤ nI h := by rw [R1.2.1, nI_leI (by omega) (by omega)]; omega
      have eb : bt (pb A (ch c)) h = A h := by rw [bt_pb A _ (by omega) h (by omega)]; simp [hh]
      rw [show ch c - h = (ch c - (h + 1)) + 1 by omega, loopO]
      refine qX12_orders_54 L1 (fun r => absurd r nle) (fun _ r => ?_) (fun _ r => ?_) <;> rw [bit_z _ (by omega), eb] at r
      · have r : A h = true := by cases z : A h; exact absurd z r; rfl
        rw [r, if_pos rfl]
        refine K0.set (d1 := d - 1) (by omega) (tX12_takesOut L1 R1 O hh (by omega)) ?_
        rintro rv M2 ⟨rfl, F2⟩
        have s2 : Sc M M2 := sc.trans (Sc.of F2 (fun b hb => ⟨by omega, by omega, by omega⟩))
        have L2 := s2.1.lay L
        refine qX12_orders_85 L2 rfl (vi (by omega) (by decide)) ?_
        rw [nI_clamp (by omega)]
        have F3 : Fr (inC 170) M2 (wi M2 170 k (nI h)) := Fr.rf.wi rfl
        have s3 : Sc M (wi M2 170 k (nI h)) := s2.trans (Sc.of F3 (fun b hb => ⟨by omega, by omega, by omega⟩))
        have L3 := s3.1.lay L
        have R3 := R.sc s3
        refine K0.ans (d1 := d - 1) (by omega) (tX12_minutesOf L3 R3 O) (qX12_orders_120 (L3.s (a := 130) rfl (by decide)) ?_)
        have hcnt := cntB_out (A := A) (n := ch c) (h := h) hh r
        rw [pb_out (by omega) (by omega), nI_1]
        refine K0.set (d1 := d - 1) (by omega) (tX12_orders O f (k + 1) (fun i => A i && !(i == h)) (rowA c h pr) (m + cMin c (rowA c h pr)) (fun i => if i = k then nI h else path i) s1 (wi M2 170 k (nI h)) (d - 1) L3 R3 (by omega) (by omega) (fun i hi => ?_) ⟨?_, ?_⟩ (by omega)) ?_
        · rw [wi_at]
          by_cases e : i = k
          · subst e; rw [if_pos ⟨rfl, rfl⟩, if_pos rfl]
          · rw [if_neg (by omega), if_neg e, F2.i (by omega)]; exact H1 i (by omega)
        · rw [F3.i (by omega), F2.i (by omega)]; exact O1.1
        · rcases O1.2 with z | z
          · exact .inl z
          · exact .inr fun i hi => by rw [F3.i (by omega), F2.i (by omega)]; exact z i (by omega)
        · rintro rv M4 ⟨rfl, O4, H4, s4⟩
          refine qX12_orders_124 ?_
          rw [nI_1]
          refine ih M4 _ (s3.trans s4) (by rw [show k + (f + 1) = k + 1 + f by omega]; exact O4) (fun i hi => ?_)
          rw [H4 i (by omega), if_neg (by omega)]
      · rw [r]
        refine qX12_orders_124 ?_
        rw [nI_1]
        exact ih M1 s1 sc O1 H1
theorem tX12_order {x : Int32} {d : Nat} {M : MM} (L : Lay M la lb pa pb0 rl) (R : RCo M c F) (O : COk c F) (S : RSt (mi M 162) (cn c) (ch c) T) (TO : TOk c T) (hd : 13 ≤ d) : R0 g YX12_order d [.ref 130, .int x] M (QR (ordA c (tvOf (cn c) T) x) M) := by
  have h10 := O.1
  have h6 := O.2.1
  have hp := plF_le TO
  have s1 : Sc M (wi M 130 0 0) := Sc.t0
  have L1 := s1.1.lay L
  have R1 := R.sc s1
  have S1 := S.sc h10 s1
  have hl : LenOk (cn c) (clen c) := O.2.2.2.2.2.2.1
  refine R0.of (by decide +kernel) (Nat.le_of_ble_eq_true rfl) rfl (qX12_order_0 L rfl (K0.ans (d1 := d - 1) (by omega) tX12_within ?_))
  have em : (mi (wi M 130 0 0) 132 1 - mi (wi M 130 0 0) 162 1) = nI (ch c - plF (ch c) T) := by rw [R1.2.1, S1.2.1, nI_sb hp]
  rw [em]
  unfold ordA
  rw [nPl_T TO h6]
  have pr := pred6 (ch c - plF (ch c) T) (by omega)
  have ti := nI_toInt (n := ch c - plF (ch c) T) (by omega)
  have c1 : (-1 : Int32).toInt = -1 := rfl
  cases q : wIn x (-1) (nI (ch c - plF (ch c) T) - 1)
  · refine qX12_order_27 L1 (fun z => absurd rfl z) (fun _ => ⟨?_, s1⟩)
    by_cases a : x < -1
    · rw [if_pos a]
    · rw [if_neg a, if_neg]
      intro b
      unfold wIn at q
      rw [decide_eq_true a, Bool.true_and] at q
      have q := of_decide_eq_false q
      have q := Classical.not_not.mp q
      rw [Int32.lt_iff_toInt_lt, pr] at q
      rw [Int32.lt_iff_toInt_lt, ti] at b
      omega
  · have q1 : ¬ x < -1 ∧ ¬ nI (ch c - plF (ch c) T) - 1 < x := by unfold wIn at q; simpa using q
    have q2 : x < nI (ch c - plF (ch c) T) := by
      have := q1.2
      rw [Int32.lt_iff_toInt_lt, pr] at this
      rw [Int32.lt_iff_toInt_lt, ti]
      omega
    rw [if_neg q1.1, if_pos q2]
    refine qX12_order_27 L1 (fun _ => ?_) (fun z => absurd z (by decide))
    rw [S1.2.1]
    have tO : tOk c (tvOf (cn c) T) := TO.ok
    have key := up (p := fun i => ∀ s, ahdF c (tvOf (cn c) T) (ch c - i) i s = ahdF c (tvOf (cn c) T) (ch c - plF (ch c) T) (plF (ch c) T) 0 → E0 g YX12_order d 43 [(0, .ref 130), (1, .int x), (3, .int s), (4, .int (nI i))] [] (wi M 130 0 0) (QR (if x = -1 then (ordR c (tvOf (cn c) T)).1 else (ordR c (tvOf (cn c) T)).2 x.toNatClampNeg) M)) (ch c) (fun s hs => ?_) (fun i hi ih s hs => ?_)
    · exact key _ hp 0 rfl
    · have ge : mi (wi M 130 0 0) 132 1 ≤ nI (ch c) := by rw [R1.2.1]; exact Int32.le_refl _
      rw [Nat.sub_self] at hs
      have hs : s = ahdF c (tvOf (cn c) T) (ch c - plF (ch c) T) (plF (ch c) T) 0 := hs
      have e2 := ahd_pb h6 tO
      rw [nPl_T TO h6] at e2
      have cnt := ahA_cnt h6 tO
      rw [nPl_T TO h6] at cnt
      have s2 : Sc M (wi (wi M 130 0 0) 130 56 (-1)) := s1.w (by omega) (by omega)
      refine qX12_order_43 L1 rfl (fun z => absurd ge z) (fun _ => ?_) (fun z => absurd ge z)
      rw [hs, e2, show mi (wi (wi M 130 0 0) 130 56 (-1)) 162 0 = tp (tvOf (cn c) T) from (S.sc h10 s2).1]
      refine K0.set (d1 := d - 1) (by omega) (tX12_orders O (ch c - plF (ch c) T) 0 (ahA c (tvOf (cn c) T)) (tp (tvOf (cn c) T)) 0 (fun _ => 0) (-1, fun _ => 0) _ (d - 1) (s2.1.lay L) (R.sc s2) cnt (by omega) (fun i hi => absurd hi (by omega)) ⟨by rw [wi_at, if_pos ⟨rfl, rfl⟩], .inl rfl⟩ (by omega)) ?_
      rintro rv M3 ⟨rfl, O3, -, s3⟩
      have s03 := s2.trans s3
      have eR : ordR c (tvOf (cn c) T) = ordT c (ch c - plF (ch c) T) 0 (ahA c (tvOf (cn c) T)) (tp (tvOf (cn c) T)) 0 (fun _ => 0) (-1, fun _ => 0) := by unfold ordR; rw [nPl_T TO h6]
      have hx : ¬ x = -1 → ∃ k, k < ch c - plF (ch c) T ∧ x = nI k := fun e => by
        have : ¬ x < 0 := fun w => e (Int32.toInt_inj.mp (by
          have a := q1.1
          rw [Int32.lt_iff_toInt_lt, c1] at a
          rw [Int32.lt_iff_toInt_lt, show (0 : Int32).toInt = 0 from rfl] at w
          rw [c1]; omega))
        obtain ⟨k, k1, rfl⟩ := nI_of this
        rw [nI_ltI k1 (by omega)] at q2
        exact ⟨k, q2, rfl⟩
      refine qX12_order_92 (s03.1.lay L) (fun e => ?_) (fun e => ⟨?_, s03⟩) (fun e => ⟨?_, s03⟩)
      · obtain ⟨k, k1, rfl⟩ := hx e
        exact vi (by omega) (by decide)
      · obtain ⟨k, k1, rfl⟩ := hx e
        rw [if_neg e, nI_clamp (by omega), eR]
        rcases O3.2 with z | z
        · have hpos := ordT_pos hl h10 (ch c - plF (ch c) T) 0 (ahA c (tvOf (cn c) T)) (tp (tvOf (cn c) T)) 0 (fun _ => 0) (-1, fun _ => 0) cnt (by omega) (by omega)
          have z : (ordT c (ch c - plF (ch c) T) 0 (ahA c (tvOf (cn c) T)) (tp (tvOf (cn c) T)) (nI 0) (fun _ => 0) (-1, fun _ => 0)).1 = -1 := z
          rw [z] at hpos
          exact absurd (by decide) hpos
        · exact congrArg (fun q => some (Value.int q)) (z k (by omega))
      · rw [if_pos e, eR]
        exact congrArg (fun q => some (Value.int q)) O3.1
    · have lt : ¬ mi (wi M 130 0 0) 132 1 ≤ nI i := by rw [R1.2.1, nI_leI (by omega) (by omega)]; omega
      have e3 : (3 + nI i : Int32) = nI (3 + i) := nI_add 3 i
      rw [show ch c - i = (ch c - (i + 1)) + 1 by omega, ahdF, spl_ord hi] at hs
      refine qX12_order_43 L1 rfl (fun _ => by rw [e3]; exact vi (by omega) (by decide)) (fun z => absurd z lt) (fun _ => ?_)
      rw [nI_1, e3, nI_clamp (by omega), S1.2.2.2.1 i (by omega)]
      exact ih _ hs
end OD
/-- bids at rest: none where it is thrown -/
def restF (hi lo al what : Int32) : Nat → Nat → Int32 → Option Int32
  | 0, _, f => if what = -1 then some f else none
  | j + 1, k, f => if jRest hi lo al (nI k) then (if f = what then some (nI k) else restF hi lo al what j (k + 1) (f + 1)) else restF hi lo al what j (k + 1) f
def restA (hi lo al what : Int32) : Option Int32 := if wIn hi 0 9 = true ∧ wIn lo 0 9 = true ∧ wIn al 0 9 = true ∧ ¬ what < -1 then restF hi lo al what 4 0 0 else none
def gBy (hi lo al x y : Int32) : Int32 := if x = 1 then (if y = 1 then hi else al) else (if y = 1 then 0 else lo)
theorem restK {hi lo al : Int32} : ∀ k, k < 4 → jRest hi lo al (nI k) = (!decide (gBy hi lo al (nI k / 2) (nI k - nI k / 2 * 2) < gBy hi lo al (1 - nI k / 2) (nI k - nI k / 2 * 2)) && !decide (gBy hi lo al (nI k - nI k / 2 * 2) (nI k / 2) < gBy hi lo al (1 - (nI k - nI k / 2 * 2)) (nI k / 2))) := by
  intro k hk
  rcases (show k = 0 ∨ k = 1 ∨ k = 2 ∨ k = 3 by omega) with rfl | rfl | rfl | rfl <;> rfl
section RS
variable {g : GG} {d : Nat} {M : MM} {la lb pa pb0 rl : Nat}
theorem tX12_getsBy {hi lo al x y : Int32} : R0 g YX12_getsBy d [.int hi, .int lo, .int al, .int x, .int y] M (Ans (gBy hi lo al x y) M) := by
  unfold gBy
  refine R0.of (by decide +kernel) (Nat.le_of_ble_eq_true rfl) rfl (qX12_getsBy_0 (fun a b => ?_) (fun a b => ?_) (fun a b => ?_) (fun a b => ?_))
  · rw [if_neg a, if_neg b]; exact ⟨rfl, rfl⟩
  · rw [if_neg a, if_pos b]; exact ⟨rfl, rfl⟩
  · rw [if_pos a, if_neg b]; exact ⟨rfl, rfl⟩
  · rw [if_pos a, if_pos b]; exact ⟨rfl, rfl⟩
theorem tX12_rests {hi lo al x : Int32} (L : Lay M la lb pa pb0 rl) (hd : 1 ≤ d) : R0 g YX12_rests d [.ref 130, .int hi, .int lo, .int al, .int x] M (fun rv M1 => ((restA hi lo al x = none ∧ mi M1 130 0 = 1) ∨ (∃ v, restA hi lo al x = some v ∧ rv = some (.int v) ∧ mi M1 130 0 = 0)) ∧ (∃ v, rv = some (.int v)) ∧ Sc M M1) := by
  have ob130 : ob M 130 12 := L.s (a := 130) rfl (by decide)
  have s1 : Sc M (wi M 130 0 1) := Sc.rf.w (by omega) (by omega)
  have t1 : mi (wi M 130 0 1) 130 0 = 1 := by rw [wi_at, if_pos ⟨rfl, rfl⟩]
  have s0 : Sc M (wi M 130 0 0) := Sc.t0
  have t0 : mi (wi M 130 0 0) 130 0 = 0 := by rw [wi_at, if_pos ⟨rfl, rfl⟩]
  refine R0.of (by decide +kernel) (Nat.le_of_ble_eq_true rfl) rfl (qX12_rests_0 (K0.ans (d1 := d - 1) (by omega) tX12_within ?_))
  have bad : restA hi lo al x = none → ((restA hi lo al x = none ∧ mi (wi M 130 0 1) 130 0 = 1) ∨ (∃ v, restA hi lo al x = some v ∧ some (Value.int 0) = some (.int v) ∧ mi (wi M 130 0 1) 130 0 = 0)) ∧ (∃ v, some (Value.int 0) = some (.int v)) ∧ Sc M (wi M 130 0 1) := fun e => ⟨.inl ⟨e, t1⟩, ⟨0, rfl⟩, s1⟩
  cases q1 : wIn hi 0 9
  · exact qX12_rests_8 L rfl ob130 (fun _ z => absurd t1 z) (fun _ _ => bad (if_neg (fun z => by rw [q1] at z; exact absurd z.1 (by decide)))) (fun z => absurd rfl z)
  · refine qX12_rests_8 L rfl ob130 (fun z => absurd z (by decide)) (fun z => absurd z (by decide)) (fun _ => K0.ans (d1 := d - 1) (by omega) tX12_within ?_)
    cases q2 : wIn lo 0 9
    · exact qX12_rests_18 L rfl ob130 (fun _ z => absurd t1 z) (fun _ _ => bad (if_neg (fun z => by rw [q2] at z; exact absurd z.2.1 (by decide)))) (fun z => absurd rfl z)
    · refine qX12_rests_18 L rfl ob130 (fun z => absurd z (by decide)) (fun z => absurd z (by decide)) (fun _ => K0.ans (d1 := d - 1) (by omega) tX12_within ?_)
      cases q3 : wIn al 0 9
      · exact qX12_rests_28 L rfl rfl rfl ob130 (fun _ z => absurd t1 z) (fun _ _ => bad (if_neg (fun z => by rw [q3] at z; exact absurd z.2.2.1 (by decide)))) (fun z => absurd rfl z) (fun z => absurd rfl z) (fun z => absurd rfl z) (fun z => absurd rfl z)
      · refine qX12_rests_28 L rfl rfl rfl ob130 (fun z => absurd z (by decide)) (fun z => absurd z (by decide)) (fun _ _ z => absurd t1 z) (fun _ r _ => bad (if_neg (fun z => z.2.2.2 r))) (fun _ r _ => ?_) (fun _ _ z => absurd (t0.symm.trans z) (by decide))
        have eA : restA hi lo al x = restF hi lo al x 4 0 0 := if_pos ⟨q1, q2, q3, r⟩
        rw [eA]
        have key := up0 (p := fun k => ∀ f, restF hi lo al x (4 - k) k f = restF hi lo al x 4 0 0 → E0 g YX12_rests d 61 [(0, .ref 130), (1, .int hi), (2, .int lo), (3, .int al), (4, .int x), (5, .int f), (6, .int (nI k))] [] (wi M 130 0 0) (fun rv M1 => ((restF hi lo al x 4 0 0 = none ∧ mi M1 130 0 = 1) ∨ (∃ v, restF hi lo al x 4 0 0 = some v ∧ rv = some (.int v) ∧ mi M1 130 0 = 0)) ∧ (∃ v, rv = some (.int v)) ∧ Sc M M1)) 4 (fun f hs => ?_) (fun k hk ih f hs => ?_)
        · exact key 0 rfl
        · have hs : (if x = -1 then some f else none) = restF hi lo al x 4 0 0 := hs
          rw [← hs]
          refine qX12_rests_61 (s0.1.lay L) rfl rfl (fun _ a _ => ⟨.inl ⟨if_neg a, ?_⟩, ⟨_, rfl⟩, s0.w (by omega) (by omega)⟩) (fun _ a b => absurd b a) (fun _ a b => absurd a b) (fun _ a _ => ⟨.inr ⟨f, if_pos a, rfl, ?_⟩, ⟨_, rfl⟩, s0.w (by omega) (by omega)⟩) (fun z => absurd (by decide) z)
          · rw [wi_at, if_pos ⟨rfl, rfl⟩]
          · rw [wi_at, if_pos ⟨rfl, rfl⟩]
        · have n4 : ¬ (4 : Int32) ≤ nI k := ngl 4 rfl (by decide) hk
          rw [show 4 - k = (4 - (k + 1)) + 1 by omega, restF, restK k hk] at hs
          rw [← nI_1] at ih
          refine qX12_rests_61 (s0.1.lay L) rfl rfl (fun z => absurd z n4) (fun z => absurd z n4) (fun z => absurd z n4) (fun z => absurd z n4) (fun _ => K0.ans (d1 := d - 1) (by omega) tX12_getsBy (qX12_rests_91 (K0.ans (d1 := d - 1) (by omega) tX12_getsBy (qX12_rests_101 (fun a => ?_) (fun a => K0.ans (d1 := d - 1) (by omega) tX12_getsBy (qX12_rests_116 (K0.ans (d1 := d - 1) (by omega) tX12_getsBy (qX12_rests_126 (fun b e => ?_) (fun b e => ?_) (fun b => ?_)))))))))
          · rw [decide_eq_true a, Bool.not_true, Bool.false_and, if_neg (by decide)] at hs
            exact ih _ hs
          · rw [decide_eq_false a, decide_eq_false (Int32.not_lt.mpr b), if_pos (by decide), if_neg e] at hs
            exact ih _ hs
          · rw [decide_eq_false a, decide_eq_false (Int32.not_lt.mpr b), if_pos (by decide), if_pos e] at hs
            exact ⟨.inr ⟨nI k, hs.symm, rfl, t0⟩, ⟨_, rfl⟩, s0⟩
          · rw [decide_eq_true (Int32.not_le.mp b), Bool.not_true, Bool.and_false, if_neg (by decide)] at hs
            exact ih _ hs
end RS
