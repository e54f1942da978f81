/-! ===== laws, worked by the reference ===== -/
def WIs (M : MM) (W : WW) : Prop := ∀ a, a < 9 → mi M (144 + a) = W a
abbrev inQ : Nat → Prop := fun b => 144 ≤ b ∧ b ≤ 152
theorem WIs.w {M : MM} {W : WW} (h : WIs M W) {a k : Nat} {v : Int32} (b : Nat) (hb : b = 144 + a) : WIs (wi M b k v) (mu W a k v) := fun x hx => by
  subst hb
  funext j
  rw [wi_at, mu_of, ← h x hx]
  by_cases e : x = a ∧ j = k
  · rw [if_pos e, if_pos ⟨by omega, e.2⟩]
  · rw [if_neg e, if_neg (fun z => e ⟨by omega, z.2⟩)]
theorem nI_dec (k : Nat) : nI (k + 1) + (-1) = nI k := by rw [← nI_1, Int32.add_assoc, show (1 : Int32) + -1 = 0 from rfl, Int32.add_zero]
theorem nI_le0 {k : Nat} (h : k < 2 ^ 31) : nI k ≤ 0 ↔ k = 0 := by
  rw [show (0 : Int32) = nI 0 from rfl, nI_leI h (by decide)]; omega
section WK
variable {g : GG} {d : Nat} {M : MM} {la lb pa pb0 rl : Nat} {W : WW} {dd : Nat} {P : Option Value → MM → Prop}
theorem tX12_opens (L : Lay M la lb pa pb0 rl) (H : WIs M W) (h7 : dd < 7) : R0 g YX12_opens d [.ref 130, .int (nI dd)] M (fun rv M1 => rv = none ∧ WIs M1 (opnW W dd) ∧ Fr inQ M M1) := by
  have hv : vp_in (nI dd) 7 := vi h7 (by decide)
  have ec : (nI dd).toNatClampNeg = dd := nI_clamp (by omega)
  refine R0.of (by decide +kernel) (Nat.le_of_ble_eq_true rfl) rfl (qX12_opens_0 L rfl rfl rfl rfl rfl hv hv hv hv hv ⟨rfl, ?_, ?_⟩)
  · rw [ec]
    exact ((((H.w 145 rfl).w 147 rfl).w 148 rfl).w 149 rfl).w 151 rfl
  · exact ((((Fr.rf.wi (by omega)).wi (by omega)).wi (by omega)).wi (by omega)).wi (by omega)
theorem tX12_sums (L : Lay M la lb pa pb0 rl) (H : WIs M W) (h7 : dd < 7) : R0 g YX12_sums d [.ref 130, .int (nI dd)] M (fun rv M1 => rv = none ∧ WIs M1 (smsW W dd) ∧ Fr inQ M M1) := by
  have hv : vp_in (nI dd) 7 := vi h7 (by decide)
  have ec : (nI dd).toNatClampNeg = dd := nI_clamp (by omega)
  have e4 : mi M 148 = W 4 := H 4 (by omega)
  have e5 : mi M 149 = W 5 := H 5 (by omega)
  have e6 : mi M 150 = W 6 := H 6 (by omega)
  have key : ∀ v, v = sumV W dd → WIs (wi (wi M 148 dd v) 151 dd 0) (smsW W dd) := fun v e => by
    rw [e]; exact (H.w 148 rfl).w 151 rfl
  refine R0.of (by decide +kernel) (Nat.le_of_ble_eq_true rfl) rfl (qX12_sums_0 L rfl rfl rfl rfl hv (fun _ => hv) (fun _ => hv) (fun _ => hv) (fun _ => hv) (fun _ => hv) (fun _ => hv) (fun r => ⟨rfl, ?_, ?_⟩) (fun r => ⟨rfl, ?_, ?_⟩))
  · rw [ec] at r ⊢
    exact key _ (by unfold sumV; rw [← e5, if_neg r, e4, e6])
  · exact (Fr.rf.wi (by omega)).wi (by omega)
  · rw [ec] at r ⊢
    exact key _ (by unfold sumV; rw [← e5, if_pos r, e4, e6])
  · exact (Fr.rf.wi (by omega)).wi (by omega)
theorem tX12_tests (L : Lay M la lb pa pb0 rl) (H : WIs M W) (h7 : dd < 7) (hd : 1 ≤ d) : R0 g YX12_tests d [.ref 130, .int (nI dd)] M (fun rv M1 => rv = none ∧ WIs M1 (tstW W dd) ∧ Fr inQ M M1) := by
  have hv : vp_in (nI dd) 7 := vi h7 (by decide)
  have ec : (nI dd).toNatClampNeg = dd := nI_clamp (by omega)
  refine R0.of (by decide +kernel) (Nat.le_of_ble_eq_true rfl) rfl (qX12_tests_0 L (K0.set (d1 := d - 1) (by omega) (tX12_sums L H h7) ?_))
  rintro rv M1 ⟨rfl, H1, F1⟩
  have L1 := F1.lay L
  have s0 : mi M1 144 dd = W 0 dd := by rw [H1 0 (by omega)]; unfold smsW; rw [mu_of, if_neg (by omega), mu_of, if_neg (by omega)]
  have s1 : mi M1 145 dd = W 1 dd := by rw [H1 1 (by omega)]; unfold smsW; rw [mu_of, if_neg (by omega), mu_of, if_neg (by omega)]
  have s2 : mi M1 146 dd = W 2 dd := by rw [H1 2 (by omega)]; unfold smsW; rw [mu_of, if_neg (by omega), mu_of, if_neg (by omega)]
  have s3 : mi M1 147 dd = W 3 dd := by rw [H1 3 (by omega)]; unfold smsW; rw [mu_of, if_neg (by omega), mu_of, if_neg (by omega)]
  have s4 : mi M1 148 dd = sumV W dd := by rw [H1 4 (by omega)]; unfold smsW; rw [mu_of, if_neg (by omega), mu_of, if_pos ⟨rfl, rfl⟩]
  have fin : ∀ v, v = expV W dd → (none : Option Value) = none ∧ WIs (wi (wi (wi (wi M1 144 (nI dd).toNatClampNeg v) 147 (nI dd).toNatClampNeg 0) 148 (nI dd).toNatClampNeg 0) 149 (nI dd).toNatClampNeg 20) (tstW W dd) ∧ Fr inQ M (wi (wi (wi (wi M1 144 (nI dd).toNatClampNeg v) 147 (nI dd).toNatClampNeg 0) 148 (nI dd).toNatClampNeg 0) 149 (nI dd).toNatClampNeg 20) := fun v e => by
    rw [ec, e]
    exact ⟨rfl, (((H1.w 144 rfl).w 147 rfl).w 148 rfl).w 149 rfl, (((F1.wi (by omega)).wi (by omega)).wi (by omega)).wi (by omega)⟩
  -- behind the comparison
  have last : ∀ v, v = tstV W dd → E0 g YX12_tests d 76 [(0, .ref 130), (1, .int (nI dd)), (2, .int v)] [] M1 (fun rv M1 => rv = none ∧ WIs M1 (tstW W dd) ∧ Fr inQ M M1) := fun v hvv => by
    have L104 : W 1 dd = 26 → (W 0 dd = 0 ∨ tstV W dd = 0) → E0 g YX12_tests d 104 [(0, .ref 130), (1, .int (nI dd))] [] M1 (fun rv M1 => rv = none ∧ WIs M1 (tstW W dd) ∧ Fr inQ M M1) := fun z1 z2 => by
      apply qX12_tests_104 L1 <;> first | rfl | exact hv | (intros; exact hv) | skip
      · intro _
        exact fin 0 (by unfold expV; rw [z1, if_neg (by decide), if_pos rfl, if_pos z2])
      · intro r _
        rw [ec, s1, z1] at r
        exact absurd r (by decide)
      · intro r _
        rw [ec, s1, z1] at r
        exact absurd r (by decide)
    apply qX12_tests_76 L1 <;> first | rfl | exact hv | (intros; exact hv) | skip
    · intro r1 r2
      rw [ec, s1] at r1 r2
      exact fin v (by unfold expV; rw [if_neg r2, if_neg r1, hvv])
    · intro r1 r2 r3
      rw [ec, s1] at r1 r2
      rw [ec, s0] at r3
      exact fin 1 (by unfold expV; rw [if_pos r2, if_neg (fun z => r3 z.1)])
    · intro r1 r2 r3 r4
      rw [ec, s1] at r1 r2
      rw [ec, s0] at r3
      exact fin 0 (by unfold expV; rw [if_pos r2, if_pos ⟨r3, by rw [← hvv]; exact r4⟩])
    · intro r1 r2 r3 r4
      rw [ec, s1] at r1 r2
      rw [ec, s0] at r3
      exact fin 1 (by unfold expV; rw [if_pos r2, if_neg (fun z => r4 (by rw [hvv]; exact z.2))])
    · intro r1 r2
      rw [ec, s1] at r1
      rw [ec, s0] at r2
      exact L104 r1 (.inl r2)
    · intro r1 r2 r3
      rw [ec, s1] at r1
      exact L104 r1 (.inr (by rw [← hvv]; exact r3))
    · intro r1 r2 r3 _
      rw [ec, s1] at r1
      rw [ec, s0] at r2
      exact fin 1 (by unfold expV; rw [r1, if_neg (by decide), if_pos rfl, if_neg (fun z => z.elim r2 (fun y => r3 (by rw [hvv]; exact y)))])
    · intro r1 r2 r3 r4
      rw [ec, s1] at r1 r4
      rw [r1] at r4
      exact absurd r4 (by decide)
    · intro r1 r2 r3 r4
      rw [ec, s1] at r1 r4
      rw [r1] at r4
      exact absurd r4 (by decide)
  have mid : ∀ v, (W 3 dd ≠ 25 → v = tstV W dd) → E0 g YX12_tests d 44 [(0, .ref 130), (1, .int (nI dd)), (2, .int v)] [] M1 (fun rv M1 => rv = none ∧ WIs M1 (tstW W dd) ∧ Fr inQ M M1) := fun v hvv => by
    refine qX12_tests_44 L1 hv (fun _ => hv) (fun _ => hv) (fun r => ?_) (fun r1 r2 => qX12_tests_75 ?_) (fun r1 r2 => qX12_tests_75 ?_)
    · rw [ec, s3] at r
      exact last v (hvv r)
    · rw [ec, s3] at r1
      rw [ec, s2, s4] at r2
      exact last 0 (by unfold tstV; rw [if_pos r1, if_neg r2])
    · rw [ec, s3] at r1
      rw [ec, s2, s4] at r2
      exact last 1 (by unfold tstV; rw [if_pos r1, if_pos r2])
  refine qX12_tests_5 L1 hv hv (fun _ => hv) (fun _ => hv) (fun r => ?_) (fun r1 r2 => qX12_tests_43 ?_) (fun r1 r2 => qX12_tests_43 ?_)
  · rw [ec, s3] at r
    rw [ec, s4]
    exact mid _ (fun z => by unfold tstV; rw [if_neg z, if_neg r])
  · rw [ec, s3] at r1
    rw [ec, s2, s4] at r2
    exact mid 0 (fun z => by unfold tstV; rw [if_neg z, if_pos r1, if_neg (Int32.not_lt.mpr r2)])
  · rw [ec, s3] at r1
    rw [ec, s2, s4] at r2
    exact mid 1 (fun z => by unfold tstV; rw [if_neg z, if_pos r1, if_pos (Int32.not_le.mp r2)])
/-- a value, laid down -/
theorem wk_dl {x1 x3 : Int32} (L : Lay M la lb pa pb0 rl) (H : WIs M W) : ∀ dd v, dd < 7 → (∀ M2, Fr inQ M M2 → WIs M2 (dlT dd W v).2 → E0 g YX12_worked d 329 [(0, .ref 130), (1, .int x1), (2, .int (nI (dlT dd W v).1)), (3, .int x3)] [] M2 P) → E0 g YX12_worked d 268 [(0, .ref 130), (1, .int x1), (2, .int (nI dd)), (3, .int x3), (5, .int v)] [] M P := by
  intro dd
  have fin : ∀ dd v, dd < 7 → Fm W dd → (∀ M2, Fr inQ M M2 → WIs M2 (dlT dd W v).2 → E0 g YX12_worked d 329 [(0, .ref 130), (1, .int x1), (2, .int (nI (dlT dd W v).1)), (3, .int x3)] [] M2 P) → (mi M 151 dd = 0 → E0 g YX12_worked d 329 [(0, .ref 130), (1, .int x1), (2, .int (nI dd)), (3, .int x3)] [] (wi M 150 dd v) P) ∧ (¬ mi M 151 dd = 0 → E0 g YX12_worked d 329 [(0, .ref 130), (1, .int x1), (2, .int (nI dd)), (3, .int x3)] [] (wi M 150 dd (mi M 150 dd * v)) P) := fun dd v h7 hf k => by
    rw [dlT_fm hf] at k
    have e7 : mi M 151 = W 7 := H 7 (by omega)
    have e6 : mi M 150 = W 6 := H 6 (by omega)
    refine ⟨fun r => ?_, fun r => ?_⟩
    · refine k _ (Fr.rf.wi (by omega)) ?_
      have : trmV W dd v = v := by unfold trmV; rw [← e7, if_pos r]
      show WIs _ (mu W 6 dd (trmV W dd v))
      rw [this]; exact H.w 150 rfl
    · refine k _ (Fr.rf.wi (by omega)) ?_
      have : trmV W dd v = mi M 150 dd * v := by unfold trmV; rw [← e7, if_neg r, e6]
      show WIs _ (mu W 6 dd (trmV W dd v))
      rw [this]; exact H.w 150 rfl
  induction dd with
  | zero =>
    intro v h7 k
    have hv : vp_in (nI 0) 7 := vi h7 (by decide)
    have f := fin 0 v h7 (.inl rfl) k
    have no : ¬ ¬ nI 0 ≤ 0 := fun z => z (by decide)
    exact qX12_worked_268 L rfl rfl rfl rfl (fun _ => hv) (fun _ _ => hv) (fun _ _ => hv) (fun z => absurd z no) (fun z => absurd z no) (fun z => absurd z no) (fun z => absurd z no) (fun _ r => f.2 r) (fun _ r => f.1 r) (fun z => absurd z no) (fun z => absurd z no) (fun z => absurd z no) (fun z => absurd z no)
  | succ dd ih =>
    intro v h7 k
    have hv : vp_in (nI (dd + 1)) 7 := vi h7 (by decide)
    have ec : (nI (dd + 1)).toNatClampNeg = dd + 1 := nI_clamp (by omega)
    have no : ¬ nI (dd + 1) ≤ 0 := by rw [nI_le0 (by omega)]; omega
    have e8 : mi M 152 (dd + 1) = W 8 (dd + 1) := by rw [H 8 (by omega)]
    refine qX12_worked_268 L rfl rfl rfl rfl (fun _ => hv) (fun _ _ => hv) (fun _ _ => hv) (fun _ => hv) (fun _ _ => hv) (fun _ _ _ => hv) (fun _ _ _ => hv) (fun z => absurd z no) (fun z => absurd z no) (fun _ r1 r2 => ?_) (fun _ r1 r2 => ?_) (fun _ r1 r2 => ?_) (fun _ r1 r2 => ?_) <;> rw [ec] at * <;> rw [e8] at r1
    · exact (fin (dd + 1) v h7 (.inr r1) k).2 r2
    · exact (fin (dd + 1) v h7 (.inr r1) k).1 r2
    · rw [nI_dec]
      rw [dlT, if_pos r1, if_neg r2] at k
      exact ih 0 (by omega) k
    · rw [nI_dec]
      rw [dlT, if_pos r1, if_pos r2] at k
      exact ih 1 (by omega) k
theorem dlT_le : ∀ (d : Nat) (W : WW) (v : Int32), (dlT d W v).1 ≤ d := fun d W v => (dlT_ag (W1 := W) v (fun _ _ _ => rfl)).2.2
theorem wk_step {hl i e : Nat} {c : Int32} {s : Nat × WW} (hd : 3 ≤ d) (L : Lay M la lb pa pb0 rl) (hh : hl < 12) (he : mi M 140 hl = nI e) (h2 : e ≤ 2000) (hi : i < e) (hc : mi M 141 i = c) (H : WIs M W) (h7 : dd < 7) (hw : wStep (mi M 153) c (dd, W) = some s) (k : ∀ M2, Fr inQ M M2 → WIs M2 s.2 → s.1 < 7 → E0 g YX12_worked d 14 [(0, .ref 130), (1, .int (nI hl)), (2, .int (nI s.1)), (3, .int (nI (i + 1)))] [] M2 P) : E0 g YX12_worked d 14 [(0, .ref 130), (1, .int (nI hl)), (2, .int (nI dd)), (3, .int (nI i))] [] M P := by
  have hv : vp_in (nI dd) 7 := vi h7 (by decide)
  have ec : (nI dd).toNatClampNeg = dd := nI_clamp (by omega)
  have ei : (nI i).toNatClampNeg = i := nI_clamp (by omega)
  have eh : (nI hl).toNatClampNeg = hl := nI_clamp (by omega)
  have hlv : vp_in (nI hl) 12 := vi hh (by decide)
  have nle : ¬ mi M 140 (nI hl).toNatClampNeg ≤ nI i := by rw [eh, he, nI_leI (by omega) (by omega)]; omega
  have cc : mi M 141 (nI i).toNatClampNeg = c := by rw [ei]; exact hc
  have k2 : ∀ M2, Fr inQ M M2 → WIs M2 s.2 → s.1 < 7 → E0 g YX12_worked d 329 [(0, .ref 130), (1, .int (nI hl)), (2, .int (nI s.1)), (3, .int (nI i))] [] M2 P := fun M2 F2 H2 h => qX12_worked_329 (by rw [nI_1]; exact k M2 F2 H2 h)
  -- a part's value
  have val : ∀ v, s = dlT dd W v → E0 g YX12_worked d 268 [(0, .ref 130), (1, .int (nI hl)), (2, .int (nI dd)), (3, .int (nI i)), (5, .int v)] [] M P := fun v hs => by
    refine wk_dl L H dd v h7 (fun M2 F2 H2 => ?_)
    have := dlT_le dd W v
    rw [← hs] at H2 this ⊢
    exact k2 M2 F2 H2 (by omega)
  have opn : ∀ x : Int32, s = (dd + 1, opnW (mu W 8 (dd + 1) x) (dd + 1)) → dd < 6 → K0 g YX12_worked YX12_opens d 72 [.ref 130, .int (nI dd + 1)] [(0, .ref 130), (1, .int (nI hl)), (2, .int (nI dd + 1)), (3, .int (nI i))] [] (wi M 152 (nI dd + 1).toNatClampNeg x) P := fun x hs h6 => by
    rw [nI_1, nI_clamp (by omega)]
    have F1 : Fr inQ M (wi M 152 (dd + 1) x) := Fr.rf.wi (by omega)
    refine K0.set (d1 := d - 1) (by omega) (tX12_opens (W := mu W 8 (dd + 1) x) (F1.lay L) (H.w 152 rfl) (by omega)) ?_
    rintro rv M2 ⟨rfl, H2, F2⟩
    subst hs
    exact qX12_worked_72 (k2 M2 (F1.trans F2) H2 (by show dd + 1 < 7; omega))
  have hw : (if c = 28 then (if dd < 6 then some (dd + 1, opnW (mu W 8 (dd + 1) 0) (dd + 1)) else none) else if c = 30 then (if dd < 6 then some (dd + 1, opnW (mu W 8 (dd + 1) 1) (dd + 1)) else none) else if c = 20 ∨ c = 21 then some (dd, mu (smsW W dd) 5 dd c) else if c = 22 then some (dd, mu W 7 dd 22) else if c = 24 ∨ c = 25 then some (dd, mu (mu (mu (mu (smsW W dd) 2 dd (sumV W dd)) 3 dd c) 4 dd 0) 5 dd 20) else if c = 26 ∨ c = 27 then some (dd, mu (tstW W dd) 1 dd c) else if c = 29 then (if 1 ≤ dd then some (dlT (dd - 1) (tstW W dd) (expV W dd)) else none) else if ¬ c < 100 then some (dlT dd W (c - 100)) else if ¬ c < 0 ∧ ¬ 20 ≤ c then some (dlT dd W (mi M 153 c.toNatClampNeg)) else none) = some s := hw
  -- a sum closed
  have sm : ∀ (pc : Nat), (∀ M2, Fr inQ M M2 → WIs M2 (smsW W dd) → E0 g YX12_worked d pc [(0, .ref 130), (1, .int (nI hl)), (2, .int (nI dd)), (3, .int (nI i)), (4, .int c)] [] M2 P) → K0 g YX12_worked YX12_sums d pc [.ref 130, .int (nI dd)] [(0, .ref 130), (1, .int (nI hl)), (2, .int (nI dd)), (3, .int (nI i)), (4, .int c)] [] M P := fun pc kk => by
    refine K0.set (d1 := d - 1) (by omega) (tX12_sums L H h7) ?_
    rintro rv M2 ⟨rfl, H2, F2⟩
    exact kk M2 F2 H2
  have pls : some (dd, mu (smsW W dd) 5 dd c) = some s → K0 g YX12_worked YX12_sums d 94 [.ref 130, .int (nI dd)] [(0, .ref 130), (1, .int (nI hl)), (2, .int (nI dd)), (3, .int (nI i)), (4, .int c)] [] M P := fun hs => sm 94 (fun M2 F2 H2 => by
    cases hs
    refine qX12_worked_94 (F2.lay L) rfl hv (k2 _ (F2.wi (by omega)) ?_ h7)
    rw [ec]
    exact H2.w 149 rfl)
  have cmp : some (dd, mu (mu (mu (mu (smsW W dd) 2 dd (sumV W dd)) 3 dd c) 4 dd 0) 5 dd 20) = some s → K0 g YX12_worked YX12_sums d 142 [.ref 130, .int (nI dd)] [(0, .ref 130), (1, .int (nI hl)), (2, .int (nI dd)), (3, .int (nI i)), (4, .int c)] [] M P := fun hs => sm 142 (fun M2 F2 H2 => by
    cases hs
    have s4 : mi M2 148 dd = sumV W dd := by rw [H2 4 (by omega)]; unfold smsW; rw [mu_of, if_neg (by omega), mu_of, if_pos ⟨rfl, rfl⟩]
    refine qX12_worked_142 (F2.lay L) rfl rfl rfl rfl hv hv hv hv (k2 _ ((((F2.wi (by omega)).wi (by omega)).wi (by omega)).wi (by omega)) ?_ h7)
    rw [ec, s4]
    exact (((H2.w 146 rfl).w 147 rfl).w 148 rfl).w 149 rfl)
  have ts : ∀ (pc : Nat) (lv : List (Nat × Value)), (∀ M2, Fr inQ M M2 → WIs M2 (tstW W dd) → E0 g YX12_worked d pc lv [] M2 P) → K0 g YX12_worked YX12_tests d pc [.ref 130, .int (nI dd)] lv [] M P := fun pc lv kk => by
    refine K0.set (d1 := d - 1) (by omega) (tX12_tests L H h7 (by omega)) ?_
    rintro rv M2 ⟨rfl, H2, F2⟩
    exact kk M2 F2 H2
  have jn : some (dd, mu (tstW W dd) 1 dd c) = some s → K0 g YX12_worked YX12_tests d 199 [.ref 130, .int (nI dd)] [(0, .ref 130), (1, .int (nI hl)), (2, .int (nI dd)), (3, .int (nI i)), (4, .int c)] [] M P := fun hs => ts 199 _ (fun M2 F2 H2 => by
    cases hs
    refine qX12_worked_199 (F2.lay L) rfl hv (k2 _ (F2.wi (by omega)) ?_ h7)
    rw [ec]
    exact H2.w 145 rfl)
  refine qX12_worked_14 L rfl hlv (fun _ => ?_) (fun _ r1 r2 r3 r4 r5 r6 r7 r8 r9 ra rb => ?_) (fun _ _ _ _ _ _ => hv) (fun r => absurd r nle) (fun _ r => ?_) (fun _ r1 r2 r => ?_) (fun _ r1 r2 r3 r4 r5 r => ?_) (fun _ r1 r2 r3 r4 r5 r6 r7 r => ?_) (fun _ r1 r2 r3 r4 r5 r6 r7 r8 r9 ra rb => ?_) (fun _ r1 r2 r3 r4 r5 r6 r7 r8 r9 ra rb => ?_) (fun _ r1 r2 r3 r4 r5 r6 r7 r8 r9 ra => ?_) (fun _ r1 r2 r3 r4 r5 r6 r7 r8 r => ?_) (fun _ r1 r2 r3 r4 r5 r6 r => ?_) (fun _ r1 r2 r3 r4 r => ?_) (fun _ r1 r2 r3 r => ?_) (fun _ r1 r => ?_)
  · exact vi (by omega) (by decide)
  · rw [cc] at *
    have n29 : ¬ c = 29 := fun z => rb (by rw [z]; decide)
    rw [if_neg r1, if_neg r2, if_neg (fun z => z.elim r3 r4), if_neg r5, if_neg (fun z => z.elim r6 r7), if_neg (fun z => z.elim r8 r9), if_neg n29, if_neg (fun z => z ra)] at hw
    by_cases q : ¬ c < 0 ∧ ¬ 20 ≤ c
    · obtain ⟨m, hm, rfl⟩ := nI_of q.1
      rw [show (20 : Int32) = nI 20 from rfl, nI_leI (by decide) hm] at rb
      exact vi (by omega) (by decide)
    · rw [if_neg q] at hw; cases hw
  · rw [cc] at r ⊢
    rw [if_pos r] at hw
    by_cases h6 : dd < 6
    · rw [if_pos h6] at hw
      have hv2 : vp_in (nI dd + 1) 7 := by rw [nI_1]; exact vi (by omega) (by decide)
      rw [r]
      exact qX12_worked_46 L rfl rfl (fun _ => hv2) (fun _ => hv2) (fun _ => opn 0 (by cases hw; rfl) h6) (fun z => absurd z (by decide))
    · rw [if_neg h6] at hw; cases hw
  · rw [cc] at *
    rw [if_neg r1, if_neg r2, if_pos (.inl r)] at hw
    exact pls hw
  · rw [cc] at *
    rw [if_neg r1, if_neg r2, if_neg (fun z => z.elim r3 r4), if_neg r5, if_pos (.inl r)] at hw
    exact cmp hw
  · rw [cc] at *
    rw [if_neg r1, if_neg r2, if_neg (fun z => z.elim r3 r4), if_neg r5, if_neg (fun z => z.elim r6 r7), if_pos (.inl r)] at hw
    exact jn hw
  · rw [cc] at *
    rw [if_neg r1, if_neg r2, if_neg (fun z => z.elim r3 r4), if_neg r5, if_neg (fun z => z.elim r6 r7), if_neg (fun z => z.elim r8 r9)] at hw
    by_cases n29 : c = 29
    · rw [if_pos n29] at hw
      by_cases h1 : 1 ≤ dd
      · rw [if_pos h1] at hw
        refine qX12_worked_243 L (fun z => absurd n29 z) (fun _ => ts 257 _ (fun M2 F2 H2 => ?_))
        refine qX12_worked_257 (F2.lay L) hv ?_
        have ed : nI dd + (-1) = nI (dd - 1) := by rw [← nI_dec (dd - 1), show dd - 1 + 1 = dd by omega]
        rw [ed, ec, show mi M2 144 dd = expV W dd by rw [H2 0 (by omega), tstW_at, if_pos rfl]; rfl]
        refine wk_dl (F2.lay L) H2 (dd - 1) _ (by omega) (fun M3 F3 H3 => ?_)
        have := dlT_le (dd - 1) (tstW W dd) (expV W dd)
        have hs : dlT (dd - 1) (tstW W dd) (expV W dd) = s := by cases hw; rfl
        rw [hs] at H3 this ⊢
        exact k2 M3 (F2.trans F3) H3 (by omega)
      · rw [if_neg h1] at hw; cases hw
    · rw [if_neg n29, if_neg (fun z => z ra), if_neg (fun z => z.2 rb)] at hw; cases hw
  · rw [cc] at *
    have n29 : ¬ c = 29 := fun z => rb (by rw [z]; decide)
    rw [if_neg r1, if_neg r2, if_neg (fun z => z.elim r3 r4), if_neg r5, if_neg (fun z => z.elim r6 r7), if_neg (fun z => z.elim r8 r9), if_neg n29, if_neg (fun z => z ra)] at hw
    by_cases q : ¬ c < 0 ∧ ¬ 20 ≤ c
    · rw [if_pos q] at hw
      exact qX12_worked_243 L (fun _ => val _ (by cases hw; rfl)) (fun z => absurd z n29)
    · rw [if_neg q] at hw; cases hw
  · rw [cc] at *
    have n29 : ¬ c = 29 := fun z => ra (by rw [z]; decide)
    rw [if_neg r1, if_neg r2, if_neg (fun z => z.elim r3 r4), if_neg r5, if_neg (fun z => z.elim r6 r7), if_neg (fun z => z.elim r8 r9), if_neg n29, if_pos ra] at hw
    exact qX12_worked_243 L (fun _ => val _ (by cases hw; rfl)) (fun z => absurd z n29)
  · rw [cc] at *
    rw [if_neg r1, if_neg r2, if_neg (fun z => z.elim r3 r4), if_neg r5, if_neg (fun z => z.elim r6 r7), if_pos (.inr r)] at hw
    exact jn hw
  · rw [cc] at *
    rw [if_neg r1, if_neg r2, if_neg (fun z => z.elim r3 r4), if_neg r5, if_pos (.inr r)] at hw
    exact cmp hw
  · rw [cc] at *
    rw [if_neg r1, if_neg r2, if_neg (fun z => z.elim r3 r4), if_pos r] at hw
    rw [r, ec]
    cases hw
    exact k2 _ (Fr.rf.wi (by omega)) (H.w 151 rfl) h7
  · rw [cc] at *
    rw [if_neg r1, if_neg r2, if_pos (.inr r)] at hw
    exact pls hw
  · rw [cc] at r1 r ⊢
    rw [if_neg r1, if_pos r] at hw
    by_cases h6 : dd < 6
    · rw [if_pos h6] at hw
      have hv2 : vp_in (nI dd + 1) 7 := by rw [nI_1]; exact vi (by omega) (by decide)
      rw [r]
      exact qX12_worked_46 L rfl rfl (fun _ => hv2) (fun _ => hv2) (fun z => absurd rfl z) (fun _ => opn 1 (by cases hw; rfl) h6)
    · rw [if_neg h6] at hw; cases hw
theorem wk_run {hl e : Nat} (hd : 3 ≤ d) (hh : hl < 12) (h2 : e ≤ 2000) : ∀ rc i dd W M s, Lay M la lb pa pb0 rl → mi M 140 hl = nI e → SegIs M 140 i rc → i + rc.length ≤ e → WIs M W → dd < 7 → wRun (mi M 153) rc (dd, W) = some s → (∀ M2, Fr inQ M M2 → WIs M2 s.2 → s.1 < 7 → E0 g YX12_worked d 14 [(0, .ref 130), (1, .int (nI hl)), (2, .int (nI s.1)), (3, .int (nI (i + rc.length)))] [] M2 P) → E0 g YX12_worked d 14 [(0, .ref 130), (1, .int (nI hl)), (2, .int (nI dd)), (3, .int (nI i))] [] M P
  | [], i, dd, W, M, s, L, he, S, hi, H, h7, hw, k => by
    cases hw
    exact k M Fr.rf H h7
  | c :: rc, i, dd, W, M, s, L, he, S, hi, H, h7, hw, k => by
    have hw : (wStep (mi M 153) c (dd, W)).bind (wRun (mi M 153) rc) = some s := hw
    have hi : i + (rc.length + 1) ≤ e := hi
    cases q : wStep (mi M 153) c (dd, W) with
    | none => rw [q] at hw; cases hw
    | some s2 =>
      rw [q] at hw
      refine wk_step hd L hh he h2 (by omega) S.1 H h7 q (fun M2 F2 H2 h72 => ?_)
      refine wk_run hd hh h2 rc (i + 1) s2.1 s2.2 M2 s (F2.lay L) (by rw [F2.i (by omega)]; exact he) (S.2.to (F2.i (by omega))) (by omega) H2 h72 (by rw [F2.i (show ¬ inQ 153 by omega)]; exact hw) (fun M3 F3 H3 h73 => ?_)
      rw [show i + 1 + rc.length = i + (c :: rc).length by simp; omega]
      exact k M3 (F2.trans F3) H3 h73
/-- the law of hall hl, as the reference keeps it -/
def RLw (M : MM) (hl : Nat) (f : (Nat → Int32) → Int32) : Prop := ∃ b rc, mi M 139 hl = nI b ∧ mi M 140 hl = nI (b + rc.length) ∧ b + rc.length ≤ 1000 ∧ SegIs M 140 b rc ∧ PR4 0 rc f
theorem RLw.fr {S : Nat → Prop} {M M1 : MM} {hl : Nat} {f : (Nat → Int32) → Int32} (h : RLw M hl f) (F : Fr S M M1) (h1 : ¬ S 139) (h2 : ¬ S 140) (h3 : ¬ S 141) : RLw M1 hl f := by
  obtain ⟨b, rc, q1, q2, q3, q4, q5⟩ := h
  exact ⟨b, rc, by rw [F.i h1]; exact q1, by rw [F.i h2]; exact q2, q3, q4.to (F.i h3), q5⟩
theorem tX12_worked {hl : Nat} {f : (Nat → Int32) → Int32} (L : Lay M la lb pa pb0 rl) (hh : hl < 12) (H : RLw M hl f) (hd : 3 ≤ d) : R0 g YX12_worked d [.ref 130, .int (nI hl)] M (fun rv M1 => rv = some (.int (f (mi M 153))) ∧ Fr inQ M M1) := by
  obtain ⟨b, rc, q1, q2, q3, q4, q5⟩ := H
  have eh : (nI hl).toNatClampNeg = hl := nI_clamp (by omega)
  have hlv : vp_in (nI hl) 12 := vi hh (by decide)
  have H0 : WIs M (fun a => mi M (144 + a)) := fun a _ => rfl
  refine R0.of (by decide +kernel) (Nat.le_of_ble_eq_true rfl) rfl (qX12_worked_0 L (K0.set (d1 := d - 1) (by omega) (tX12_opens (dd := 0) L H0 (by omega)) ?_))
  rintro rv M1 ⟨rfl, H1, F1⟩
  refine qX12_worked_7 (F1.lay L) hlv ?_
  rw [eh, show mi M1 139 hl = nI b by rw [F1.i (by omega)]; exact q1]
  obtain ⟨W2, w1, w2, -⟩ := q5 (mi M1 153) (opnW (fun a => mi M (144 + a)) 0) (.inl rfl) (by unfold opnW; rw [mu_of, if_pos ⟨rfl, rfl⟩]) (by unfold opnW; rw [mu_of, if_neg (by omega), mu_of, if_neg (by omega), mu_of, if_pos ⟨rfl, rfl⟩]) (by unfold opnW; rw [mu_of, if_neg (by omega), mu_of, if_pos ⟨rfl, rfl⟩]) (by unfold opnW; rw [mu_of, if_neg (by omega), mu_of, if_neg (by omega), mu_of, if_neg (by omega), mu_of, if_pos ⟨rfl, rfl⟩]) (by unfold opnW; rw [mu_of, if_neg (by omega), mu_of, if_neg (by omega), mu_of, if_neg (by omega), mu_of, if_neg (by omega), mu_of, if_pos ⟨rfl, rfl⟩])
  refine wk_run hd hh (e := b + rc.length) (by omega) rc b 0 _ M1 _ (F1.lay L) (by rw [F1.i (by omega)]; exact q2) (q4.to (F1.i (by omega))) (Nat.le_refl _) H1 (by omega) w1 (fun M2 F2 H2 _ => ?_)
  have F02 := F1.trans F2
  have L2 := F02.lay L
  have ge : mi M2 140 (nI hl).toNatClampNeg ≤ nI (b + rc.length) := by rw [eh, F02.i (by omega), q2]; exact Int32.le_refl _
  refine qX12_worked_14 L2 rfl hlv (fun z => absurd ge z) (fun z => absurd ge z) (fun z => absurd ge z) (fun _ => K0.set (d1 := d - 1) (by omega) (tX12_tests (dd := 0) L2 H2 (by omega) (by omega)) ?_) (fun z => absurd ge z) (fun z => absurd ge z) (fun z => absurd ge z) (fun z => absurd ge z) (fun z => absurd ge z) (fun z => absurd ge z) (fun z => absurd ge z) (fun z => absurd ge z) (fun z => absurd ge z) (fun z => absurd ge z) (fun z => absurd ge z) (fun z => absurd ge z)
  rintro rv M3 ⟨rfl, H3, F3⟩
  refine qX12_worked_340 ((F02.trans F3).lay L) ⟨?_, F02.trans F3⟩
  rw [show mi M3 144 0 = expV W2 0 by rw [H3 0 (by omega), tstW_at, if_pos rfl]; rfl, w2, F1.i (show ¬ inQ 153 by omega)]
end WK
/-- a law's value hangs on its four facts alone -/
def ExF (f : (Nat → Int32) → Int32) : Prop := ∀ e1 e2 : Nat → Int32, (∀ k, k ≠ 0 → k ≤ 4 → e1 k = e2 k) → f e1 = f e2
theorem ExF.jn {c : Int32} {f h : (Nat → Int32) → Int32} (q : ExF f) (q2 : ExF h) : ExF (jnF c f h) := fun e1 e2 z => by unfold jnF; rw [q e1 e2 z, q2 e1 e2 z]
theorem pEx_ext {n : Nat} {t : Nat → Nat} (f lvl dp p : Nat) (acc : PRs) (hl : lvl ≤ 7) (h : rst (pEx n t f lvl dp p acc) = 0) : (lvl < 5 → ExF (rfv (pEx n t f lvl dp p acc))) ∧ (5 ≤ lvl → ExF (rfv acc) → ExF (rfv (pEx n t f lvl dp p acc))) := by
  refine pEx_ind (n := n) (t := t) (fun lvl dp p acc r => (lvl < 5 → ExF (rfv r)) ∧ (5 ≤ lvl → ExF (rfv acc) → ExF (rfv r))) ?_ ?_ ?_ ?_ ?_ ?_ ?_ ?_ ?_ ?_ ?_ f lvl dp p acc hl h
  · intro dp p acc q hd
    exact ⟨fun _ e1 e2 _ => rfl, fun z => absurd z (by omega)⟩
  · intro dp p acc q hd
    exact ⟨fun _ e1 e2 z => z _ q kfa_le, fun z => absurd z (by omega)⟩
  · intro dp p acc r _ hd _ Q1 _
    exact ⟨fun _ => Q1.1 (by omega), fun z => absurd z (by omega)⟩
  · intro dp p acc r _ hd _ Q1
    refine ⟨fun _ e1 e2 z => ?_, fun z => absurd z (by omega)⟩
    show (if rfv r e1 = 0 then (1 : Int32) else 0) = if rfv r e2 = 0 then 1 else 0
    rw [Q1.1 (by omega) e1 e2 z]
  · intro dp p acc r r2 _ _ Q1 Q2
    exact ⟨fun _ => Q2.2 (by omega) (Q1.1 (by omega)), fun z => absurd z (by omega)⟩
  · intro dp p acc r r2 _ _ Q1 Q2
    exact ⟨fun _ => Q2.2 (by omega) (Q1.1 (by omega)), fun z => absurd z (by omega)⟩
  · intro dp p acc r r2 _ _ Q1 Q2
    exact ⟨fun _ => Q2.2 (by omega) (Q1.1 (by omega)), fun z => absurd z (by omega)⟩
  · intro dp p acc a _ Q1 _ _
    exact ⟨fun _ => Q1.1 (by omega), fun z => absurd z (by omega)⟩
  · intro dp p acc a r c d hc _ _ Q1 Q2
    exact ⟨fun _ => (Q1.1 (by omega)).jn (Q2.1 (by omega)), fun z => absurd z (by omega)⟩
  · intro lvl dp p acc hc
    exact ⟨fun z => absurd z (by omega), fun _ q => q⟩
  · intro l1 l2 dp p acc r r2 c d hc _ _ Q1 Q2
    exact ⟨fun z => absurd z (by omega), fun _ q => Q2.2 (by omega) (q.jn (Q1.1 (by omega)))⟩
