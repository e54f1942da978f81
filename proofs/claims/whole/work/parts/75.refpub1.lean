/-! ===== the reference: its shorter answers ===== -/
theorem wIn_of {x : Int32} {m : Nat} (hm : m < 2 ^ 31) (h : wIn x 0 (nI m) = true) : ∃ k, k ≤ m ∧ x = nI k := by
  unfold wIn at h
  simp only [Bool.and_eq_true, decide_eq_true_eq] at h
  obtain ⟨k, hk, rfl⟩ := nI_of h.1
  have h2 := h.2
  rw [nI_ltI hm hk] at h2
  exact ⟨k, by omega, rfl⟩
theorem wIn_nI {k m : Nat} (hk : k < 2 ^ 31) (hm : m < 2 ^ 31) : wIn (nI k) 0 (nI m) = decide (k ≤ m) := by
  unfold wIn
  have h1 : ¬ nI k < 0 := nI_pos hk
  have h2 := nI_ltI hm hk
  simp [h1, h2]
theorem toI {x : Int32} {j : Nat} (hj : j < 2 ^ 31) : x.toInt = (j : Int) ↔ x = nI j := by
  rw [← Int32.toInt_inj, nI_toInt hj]
theorem wno {x : Int32} {m j : Nat} (hm : m < 2 ^ 31) (hj : j ≤ m) (h : wIn x 0 (nI m) = false) : ¬ x.toInt = (j : Int) := fun z => by
  rw [toI (by omega)] at z
  rw [z, wIn_nI (by omega) hm, decide_eq_true hj] at h
  exact absurd h (by decide)
section P1
variable {g : GG} {d : Nat} {M : MM} {la lb pa pb0 rl : Nat} {c : CD} {F : Nat → (Nat → Int32) → Int32} {T : TT} {u : UU}
theorem tX12_shot {i x : Int32} (L : Lay M la lb pa pb0 rl) (R : RCo M c F) (O : COk c F) (S : RSt (mi M 162) (cn c) (ch c) T) (hd : 1 ≤ d) : R0 g YX12_shot d [.ref 130, .int i, .int x] M (QR (cShot c (tvOf (cn c) T) i x) M) := by
  have h10 := O.1
  have s1 : Sc M (wi M 130 0 0) := Sc.t0
  have L1 := s1.1.lay L
  have R1 := R.sc s1
  refine R0.of (by decide +kernel) (Nat.le_of_ble_eq_true rfl) rfl (qX12_shot_0 L rfl (K0.ans (d1 := d - 1) (by omega) (tX12_isShot L1 R1) ?_))
  cases q : sIn i (nI (cn c))
  · have e : cShot c (tvOf (cn c) T) i x = -2 := by unfold cShot; rw [q]; rfl
    exact qX12_shot_10 (fun _ => ⟨by rw [e], s1⟩) (fun z => absurd rfl z)
  · obtain ⟨k, hk, rfl⟩ := sIn_of (by omega) q
    have ek : (nI k).toNatClampNeg = k := nI_clamp (by omega)
    have hv : vp_in (nI k) 20 := vi (by omega) (by decide)
    refine qX12_shot_10 (fun z => absurd z (by decide)) (fun _ => K0.ans (d1 := d - 1) (by omega) (tX12_within (i := x) (a := 0) (b := 3)) ?_)
    cases w : wIn x 0 3
    · have n0 : ¬ x.toInt = 0 := wno (m := 3) (j := 0) (by decide) (by omega) w
      have n1 : ¬ x.toInt = 1 := wno (m := 3) (j := 1) (by decide) (by omega) w
      have n2 : ¬ x.toInt = 2 := wno (m := 3) (j := 2) (by decide) (by omega) w
      have n3 : ¬ x.toInt = 3 := wno (m := 3) (j := 3) (by decide) (by omega) w
      have e : cShot c (tvOf (cn c) T) (nI k) x = -2 := by
        unfold cShot
        rw [q, if_pos rfl, if_neg n0, if_neg n1, if_neg n2, if_neg n3]
      exact qX12_shot_19 L1 (fun z => absurd rfl z) (fun z => absurd rfl z) (fun z => absurd rfl z) (fun z => absurd rfl z) (fun z => absurd rfl z) (fun z => absurd rfl z) (fun z => absurd rfl z) (fun _ => ⟨by rw [e], s1⟩)
    · obtain ⟨y, hy, rfl⟩ := wIn_of (m := 3) (by decide) w
      have et : (nI y).toInt = (y : Int) := nI_toInt (by omega)
      have ne : ∀ j : Nat, j < 100 → (nI y = nI j ↔ y = j) := fun j hj => nI_eq (by omega) (by omega)
      have e : cShot c (tvOf (cn c) T) (nI k) (nI y) = if y = 0 then csrt c k else if y = 1 then clen c k else if y = 2 then cnds c k else ((tp (tvOf (cn c) T) >>> (nI k &&& 31)) &&& 1) := by
        unfold cShot
        rw [q, if_pos rfl, et, ek]
        rcases (show y = 0 ∨ y = 1 ∨ y = 2 ∨ y = 3 by omega) with rfl | rfl | rfl | rfl <;> rfl
      have rr := R1.2.2.1 k hk
      refine qX12_shot_19 L1 (fun _ _ _ _ => hv) (fun _ _ _ => hv) (fun _ _ => hv) (fun _ a b c => ⟨?_, s1⟩) (fun _ a b c => ⟨?_, s1⟩) (fun _ a b => ⟨?_, s1⟩) (fun _ a => ⟨?_, s1⟩) (fun z => absurd z (by decide))
      · rw [e, if_neg (fun z => a ((ne 0 (by omega)).mpr z)), if_neg (fun z => b ((ne 1 (by omega)).mpr z)), if_neg (fun z => c ((ne 2 (by omega)).mpr z)), t0row, S.1]; rfl
      · rw [e, if_neg (fun z => a ((ne 0 (by omega)).mpr z)), if_neg (fun z => b ((ne 1 (by omega)).mpr z)), if_pos ((ne 2 (by omega)).mp c), ek, rr.2.2]
      · rw [e, if_neg (fun z => a ((ne 0 (by omega)).mpr z)), if_pos ((ne 1 (by omega)).mp b), ek, rr.2.1]
      · rw [e, if_pos ((ne 0 (by omega)).mp a), ek, rr.1]
theorem tX12_hall {i x : Int32} (L : Lay M la lb pa pb0 rl) (R : RCo M c F) (O : COk c F) (S : RSt (mi M 162) (cn c) (ch c) T) (TO : TOk c T) (hd : 6 ≤ d) : R0 g YX12_hall d [.ref 130, .int i, .int x] M (QR (cHall c (tvOf (cn c) T) i x) M) := by
  have h10 := O.1
  have h6 := O.2.1
  have s1 : Sc M (wi M 130 0 0) := Sc.t0
  have L1 := s1.1.lay L
  have R1 := R.sc s1
  have S1 : RSt (mi (wi M 130 0 0) 162) (cn c) (ch c) T := by rw [t0row]; exact S
  refine R0.of (by decide +kernel) (Nat.le_of_ble_eq_true rfl) rfl (qX12_hall_0 L rfl (K0.ans (d1 := d - 1) (by omega) (tX12_isHall L1 R1) ?_))
  cases q : sIn i (nI (ch c))
  · have e : cHall c (tvOf (cn c) T) i x = -1 := by unfold cHall; rw [q]; rfl
    exact qX12_hall_10 (fun _ => ⟨by rw [e], s1⟩) (fun z => absurd rfl z)
  · obtain ⟨k, hk, rfl⟩ := sIn_of (by omega) q
    have ek : (nI k).toNatClampNeg = k := nI_clamp (by omega)
    have hv : vp_in (nI k) 12 := vi (by omega) (by decide)
    refine qX12_hall_10 (fun z => absurd z (by decide)) (fun _ => K0.ans (d1 := d - 1) (by omega) (tX12_within (i := x) (a := 0) (b := 3)) ?_)
    cases w : wIn x 0 3
    · have n0 : ¬ x.toInt = 0 := wno (m := 3) (j := 0) (by decide) (by omega) w
      have n1 : ¬ x.toInt = 1 := wno (m := 3) (j := 1) (by decide) (by omega) w
      have n2 : ¬ x.toInt = 2 := wno (m := 3) (j := 2) (by decide) (by omega) w
      have n3 : ¬ x.toInt = 3 := wno (m := 3) (j := 3) (by decide) (by omega) w
      have e : cHall c (tvOf (cn c) T) (nI k) x = -1 := by
        unfold cHall
        rw [q, if_pos rfl, if_neg n0, if_neg n1, if_neg n2, if_neg n3]
      exact qX12_hall_19 L1 (fun z => absurd rfl z) (fun z => absurd rfl z) (fun z => absurd rfl z) (fun z => absurd rfl z) (fun z => absurd rfl z) (fun _ => ⟨by rw [e], s1⟩)
    · obtain ⟨y, hy, rfl⟩ := wIn_of (m := 3) (by decide) w
      have et : (nI y).toInt = (y : Int) := nI_toInt (by omega)
      have ne : ∀ j : Nat, j < 100 → (nI y = nI j ↔ y = j) := fun j hj => nI_eq (by omega) (by omega)
      have e : cHall c (tvOf (cn c) T) (nI k) (nI y) = if y = 0 then ckd c k else if y = 1 then td (tvOf (cn c) T) k else if y = 2 then nI (ordF (ch c) T.2.1 k) else cTk c k (tp (tvOf (cn c) T)) := by
        unfold cHall
        rw [q, if_pos rfl, et, ek, spl_ord hk]
        rcases (show y = 0 ∨ y = 1 ∨ y = 2 ∨ y = 3 by omega) with rfl | rfl | rfl | rfl <;> rfl
      refine qX12_hall_19 L1 (fun _ _ => hv) (fun _ a b c => ?_) (fun _ a b c => ?_) (fun _ a b => ?_) (fun _ a => ?_) (fun z => absurd z (by decide))
      · refine K0.set (d1 := d - 1) (by omega) (tX12_takesOut L1 R1 O hk (by omega)) ?_
        rintro rv M2 ⟨rfl, F2⟩
        refine qX12_hall_74 ⟨?_, s1.trans (Sc.of F2 (fun b hb => ⟨by omega, by omega, by omega⟩))⟩
        rw [e, if_neg (fun z => a ((ne 0 (by omega)).mpr z)), if_neg (fun z => b ((ne 1 (by omega)).mpr z)), if_neg (fun z => c ((ne 2 (by omega)).mpr z)), S1.1]
        rfl
      · refine K0.ans (d1 := d - 1) (by omega) (tX12_placeOf L1 O S1 hk) (qX12_hall_60 (qX12_hall_74 ⟨?_, s1⟩))
        rw [e, if_neg (fun z => a ((ne 0 (by omega)).mpr z)), if_neg (fun z => b ((ne 1 (by omega)).mpr z)), if_pos ((ne 2 (by omega)).mp c)]
      · refine K0.ans (d1 := d - 1) (by omega) (tX12_drawerOf L1 R1 O S1 TO (by omega)) (qX12_hall_47 (qX12_hall_74 ⟨?_, s1⟩))
        rw [e, if_neg (fun z => a ((ne 0 (by omega)).mpr z)), if_pos ((ne 1 (by omega)).mp b)]
      · refine qX12_hall_74 ⟨?_, s1⟩
        rw [e, if_pos ((ne 0 (by omega)).mp a), ek, R1.2.2.2.1 k hk]
theorem tX12_sense (L : Lay M la lb pa pb0 rl) (R : RCo M c F) (O : COk c F) (S : RSt (mi M 162) (cn c) (ch c) T) (hd : 1 ≤ d) : R0 g YX12_sense d [.ref 130] M (QR (b2i (cSen c (tp (tvOf (cn c) T)))) M) := by
  have s1 : Sc M (wi M 130 0 0) := Sc.t0
  refine R0.of (by decide +kernel) (Nat.le_of_ble_eq_true rfl) rfl (qX12_sense_0 L rfl ?_)
  rw [t0row, S.1]
  exact K0.ans (d1 := d - 1) (by omega) (tX12_makesSense (s1.1.lay L) (R.sc s1) O) (qX12_sense_15 (b2i_1 _) ⟨rfl, s1⟩)
theorem tX12_where {i : Int32} (L : Lay M la lb pa pb0 rl) (R : RCo M c F) (O : COk c F) (S : RSt (mi M 162) (cn c) (ch c) T) (TO : TOk c T) (hd : 1 ≤ d) : R0 g YX12_where d [.ref 130, .int i] M (QR (if sIn i (nI (cn c)) then tHold (td (tvOf (cn c) T)) i 6 0 else -1) M) := by
  have h10 := O.1
  have h6 := O.2.1
  have s1 : Sc M (wi M 130 0 0) := Sc.t0
  have L1 := s1.1.lay L
  have R1 := R.sc s1
  refine R0.of (by decide +kernel) (Nat.le_of_ble_eq_true rfl) rfl (qX12_where_0 L rfl (K0.ans (d1 := d - 1) (by omega) (tX12_isShot L1 R1) ?_))
  cases q : sIn i (nI (cn c))
  · exact qX12_where_10 L1 (fun z => absurd rfl z) (fun z => absurd rfl z) (fun _ => ⟨rfl, s1⟩) (fun z => absurd rfl z) (fun z => absurd rfl z)
  · obtain ⟨k, hk, rfl⟩ := sIn_of (by omega) q
    have t1 := TO.1 k hk
    have e9 : (9 + nI k : Int32) = nI (9 + k) := nI_add 9 k
    have hv : vp_in (9 + nI k) 19 := by rw [e9]; exact vi (by omega) (by decide)
    have el : mi (wi M 130 0 0) 162 ((9 + nI k : Int32)).toNatClampNeg = nI (T.1 k) := by rw [e9, nI_clamp (by omega), t0row, S.2.2.2.2 k hk]
    rw [if_pos rfl, tHold_T (by omega) hk (by omega)]
    refine qX12_where_10 L1 (fun _ => hv) (fun _ _ => hv) (fun z => absurd z (by decide)) (fun _ r => ⟨?_, s1⟩) (fun _ r => ⟨?_, s1⟩) <;> rw [el, nI_le0 (by omega)] at r
    · rw [if_pos r]
    · rw [if_neg r, el, show (1 : Int32) = nI 1 from rfl, nI_sb (by omega)]
/-- what a deed changes in the reference -/
abbrev inDd : Nat → Prop := fun b => b = 130 ∨ (144 ≤ b ∧ b ≤ 153) ∨ b = 162 ∨ b = 166
def RDd (M M1 : MM) (c : CD) (u : UU) (T : TT) : Prop := RSt (mi M1 162) (cn c) (ch c) T ∧ RUn M1 (cn c) (ch c) u ∧ mi M1 130 1 = mi M 130 1 ∧ Fr inDd M M1
theorem RUn.fr {M1 : MM} {S : Nat → Prop} (U : RUn M (cn c) (ch c) u) (F1 : Fr S M M1) (h1 : mi M1 130 49 = mi M 130 49) (h2 : ¬ S 166) : RUn M1 (cn c) (ch c) u := by
  obtain ⟨u1, u2, u3⟩ := U
  exact ⟨u1, by rw [h1]; exact u2, fun i hi => by rw [F1.i h2]; exact u3 i hi⟩
theorem tX12_show (L : Lay M la lb pa pb0 rl) (R : RCo M c F) (O : COk c F) (S : RSt (mi M 162) (cn c) (ch c) T) (TO : TOk c T) (U : RUn M (cn c) (ch c) u) (hd : 8 ≤ d) : R0 g YX12_show d [.ref 130] M (fun rv M1 => (ch c = 0 ∧ rv = some (.int (-1)) ∧ Sc M M1) ∨ (ch c ≠ 0 ∧ rv = some (.int (cMin c (tp (tvOf (cn c) (shT c T))))) ∧ RDd M M1 c (uPut u T) (shT c T))) := by
  have h6 := O.2.1
  have s1 : Sc M (wi M 130 0 0) := Sc.t0
  have L1 := s1.1.lay L
  have R1 := R.sc s1
  have S1 : RSt (mi (wi M 130 0 0) 162) (cn c) (ch c) T := by rw [t0row]; exact S
  have e0 : mi (wi M 130 0 0) 132 1 = 0 ↔ ch c = 0 := by rw [R1.2.1, show (0 : Int32) = nI 0 from rfl]; exact nI_eq (by omega) (by decide)
  refine R0.of (by decide +kernel) (Nat.le_of_ble_eq_true rfl) rfl (qX12_show_0 L rfl (fun r => ?_) (fun r => .inl ⟨e0.mp r, rfl, s1⟩))
  rw [e0] at r
  have x0 := TO.2
  rw [if_neg r] at x0
  refine K0.set (d1 := d - 1) (by omega) (tX12_keeps L1 O S1 (U.fr s1.1 s1.2.2.1 (by omega)) (by omega)) ?_
  rintro rv M2 ⟨rfl, U2, k2, F2⟩
  have R2 := R1.fr F2 (fun b hb => by omega)
  have S2 : RSt (mi M2 162) (cn c) (ch c) T := by rw [F2.i (by omega)]; exact S1
  refine qX12_show_20 (F2.lay L1) (K0.set (d1 := d - 1) (by omega) (tX12_shows (F2.lay L1) R2 O S2 x0 (by omega)) ?_)
  rintro rv M3 ⟨rfl, S3, F3⟩
  have R3 := R2.fr F3 (fun b hb => by omega)
  have L3 := F3.lay (F2.lay L1)
  refine qX12_show_24 L3 ?_
  rw [S3.1]
  have F03 : Fr inDd M M3 := ((Fr.rf.wi (.inl rfl)).trans (F2.mono (fun b hb => by omega))).trans (F3.mono (fun b hb => by omega))
  refine K0.ans (d1 := d - 1) (by omega) (tX12_minutesOf L3 R3 O) (qX12_show_34 (.inr ⟨r, rfl, S3, U2.fr F3 (by rw [F3.i (by omega)]) (by omega), ?_, F03⟩))
  rw [F3.i (by omega), k2]; exact s1.2.1
theorem tX12_turn (L : Lay M la lb pa pb0 rl) (R : RCo M c F) (O : COk c F) (S : RSt (mi M 162) (cn c) (ch c) T) (TO : TOk c T) (U : RUn M (cn c) (ch c) u) (hd : 3 ≤ d) : R0 g YX12_turn d [.ref 130] M (fun rv M1 => rv = some (.int (if ch c = 0 then -1 else nI T.2.2.1)) ∧ RDd M M1 c (uPut u T) (tTurn T)) := by
  have s1 : Sc M (wi M 130 0 0) := Sc.t0
  have L1 := s1.1.lay L
  have R1 := R.sc s1
  have S1 : RSt (mi (wi M 130 0 0) 162) (cn c) (ch c) T := by rw [t0row]; exact S
  refine R0.of (by decide +kernel) (Nat.le_of_ble_eq_true rfl) rfl (qX12_turn_0 L rfl (K0.set (d1 := d - 1) (by omega) (tX12_keeps L1 O S1 (U.fr s1.1 s1.2.2.1 (by omega)) (by omega)) ?_))
  rintro rv M2 ⟨rfl, U2, k2, F2⟩
  have R2 := R1.fr F2 (fun b hb => by omega)
  have S2 : RSt (mi M2 162) (cn c) (ch c) T := by rw [F2.i (by omega)]; exact S1
  refine qX12_turn_9 (F2.lay L1) (K0.set (d1 := d - 1) (by omega) (tX12_turns (F2.lay L1) R2 O S2 TO) ?_)
  rintro rv M3 ⟨rfl, S3, F3⟩
  have R3 := R2.fr F3 (fun b hb => by omega)
  have L3 := F3.lay (F2.lay L1)
  have F03 : Fr inDd M M3 := ((Fr.rf.wi (.inl rfl)).trans (F2.mono (fun b hb => by omega))).trans (F3.mono (fun b hb => by omega))
  refine qX12_turn_13 L3 (K0.ans (d1 := d - 1) (by omega) (tX12_nextHall L3 R3 O S3 TO.turn) (qX12_turn_17 ⟨rfl, S3, U2.fr F3 (by rw [F3.i (by omega)]) (by omega), ?_, F03⟩))
  rw [F3.i (by omega), k2]; exact s1.2.1
theorem tX12_undo (L : Lay M la lb pa pb0 rl) (O : COk c F) (U : RUn M (cn c) (ch c) u) (hd : 1 ≤ d) : R0 g YX12_undo d [.ref 130] M (fun rv M1 => (u.1 = 0 ∧ rv = some (.int 0) ∧ Sc M M1) ∨ (0 < u.1 ∧ rv = some (.int 1) ∧ RDd M M1 c (u.1 - 1, u.2) (u.2 (u.1 - 1)))) := by
  obtain ⟨u1, u2, u3⟩ := U
  have s1 : Sc M (wi M 130 0 0) := Sc.t0
  have L1 := s1.1.lay L
  have ed : mi (wi M 130 0 0) 130 49 = nI u.1 := by rw [s1.2.2.1]; exact u2
  have e0 : mi (wi M 130 0 0) 130 49 = 0 ↔ u.1 = 0 := by rw [ed, show (0 : Int32) = nI 0 from rfl]; exact nI_eq (by omega) (by decide)
  refine R0.of (by decide +kernel) (Nat.le_of_ble_eq_true rfl) rfl (qX12_undo_0 L rfl rfl (fun r => ?_) (fun r => .inl ⟨e0.mp r, rfl, s1⟩))
  · rw [e0] at r
    rw [ed, show (1 : Int32) = nI 1 from rfl, nI_sb (by omega)]
    have F2 : Fr (inC 130) M (wi (wi M 130 0 0) 130 49 (nI (u.1 - 1))) := Fr.wi (S := inC 130) (Fr.wi (S := inC 130) Fr.rf rfl) rfl
    have L2 := F2.lay L
    rw [show mi (wi (wi M 130 0 0) 130 49 (nI (u.1 - 1))) 130 49 = nI (u.1 - 1) by rw [wi_at, if_pos ⟨rfl, rfl⟩], show (19 : Int32) = nI 19 from rfl, pk_mul]
    refine K0.set (d1 := d - 1) (by omega) (tX12_copies (x := 19 * (u.1 - 1)) (y := 0) (L2.s (a := 166) rfl (by decide)) (L2.s (a := 162) rfl (by decide)) (by omega) (by omega) (by decide) (by decide) (by decide)) ?_
    rintro rv M3 ⟨rfl, c1, c2, F3⟩
    refine qX12_undo_43 (.inr ⟨by omega, rfl, ?_, ⟨by show u.1 - 1 ≤ 16; omega, ?_, fun i hi => ?_⟩, ?_, (F2.mono (fun b hb => .inl hb)).trans (F3.mono (fun b hb => by omega))⟩)
    · refine (u3 (u.1 - 1) (by omega)).cong O.1 (fun k hk => ?_)
      rw [← Nat.zero_add k, c1 k hk, F2.i (by omega), Nat.zero_add]
    · rw [F3.i (by omega), wi_at, if_pos ⟨rfl, rfl⟩]
    · have hi : i < u.1 - 1 := hi
      rw [F3.i (by omega), F2.i (by omega)]
      exact u3 i (by omega)
    · rw [F3.i (by omega), wi_at, if_neg (by omega), wi_at, if_neg (by omega)]
end P1
