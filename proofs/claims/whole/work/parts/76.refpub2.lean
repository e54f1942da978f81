/-! ===== the reference: deeds, rounds judged, how long it lasts ===== -/
/-- the round kept at o -/
def RLn (M : MM) (o : Nat) (q : PP) : Prop := mi M 154 o = nI q.1 ∧ ∀ i, i < q.1 → mi M 155 (40 * o + i) = nI (q.2.1 i) ∧ (q.2.1 i = 1 ∨ q.2.1 i = 2 → mi M 156 (40 * o + i) = nI (q.2.2.1 i) ∧ mi M 158 (40 * o + i) = nI (q.2.2.2.2 i)) ∧ (q.2.1 i = 2 → mi M 157 (40 * o + i) = nI (q.2.2.2.1 i))
theorem RLn.fr {S : Nat → Prop} {M M1 : MM} {o : Nat} {q : PP} (h : RLn M o q) (F1 : Fr S M M1) (hS : ∀ b, 154 ≤ b → b ≤ 158 → ¬ S b) : RLn M1 o q := by
  unfold RLn
  rw [F1.i (hS 154 (by omega) (by omega)), F1.i (hS 155 (by omega) (by omega)), F1.i (hS 156 (by omega) (by omega)), F1.i (hS 157 (by omega) (by omega)), F1.i (hS 158 (by omega) (by omega))]
  exact h
def POc (c : CD) (q : PP) : Prop := q.1 ≤ 40 ∧ ∀ i, i < q.1 → q.2.1 i < 4 ∧ (q.2.1 i = 1 ∨ q.2.1 i = 2 → q.2.2.1 i < ch c ∧ q.2.2.2.2 i < cn c) ∧ (q.2.1 i = 2 → q.2.2.2.1 i < ch c)
section P2
variable {g : GG} {d : Nat} {M : MM} {la lb pa pb0 rl : Nat} {c : CD} {F : Nat → (Nat → Int32) → Int32} {T : TT} {u : UU} {p : PP}
theorem lies_T {hl k : Nat} (O : COk c F) (h1 : hl < ch c) (h2 : k < cn c) : cLies c (tvOf (cn c) T) (nI hl) (nI k) = decide (T.1 k = hl + 1) := by
  have h10 := O.1
  have h6 := O.2.1
  unfold cLies
  rw [sIn_nI (by omega) (by omega), sIn_nI (by omega) (by omega), decide_eq_true h1, decide_eq_true h2, tHas_T (by omega) h2 (by omega)]
  rfl
theorem jBit_T {T : TT} {n : Nat} (hn : n ≤ 10) : sBits (tp (tvOf n T)) 10 = jBit (tp (tvOf n T)) := by
  obtain ⟨m, m1, m2⟩ := pb_small (fun k => T.1 k == 0) hn
  show sBits (pb (fun k => T.1 k == 0) n) 10 = jBit (pb (fun k => T.1 k == 0) n)
  rw [m2, bits_all m m1]
theorem tX12_give {i k : Int32} (L : Lay M la lb pa pb0 rl) (R : RCo M c F) (O : COk c F) (S : RSt (mi M 162) (cn c) (ch c) T) (TO : TOk c T) (U : RUn M (cn c) (ch c) u) (hd : 2 ≤ d) : R0 g YX12_give d [.ref 130, .int i, .int k] M (fun rv M1 => (cLies c (tvOf (cn c) T) i k = false ∧ rv = some (.int (-1)) ∧ Sc M M1) ∨ (cLies c (tvOf (cn c) T) i k = true ∧ rv = some (.int (jBit (tp (tvOf (cn c) (tLay T k.toNatClampNeg 0))))) ∧ RDd M M1 c (uPut u T) (tLay T k.toNatClampNeg 0))) := by
  have h10 := O.1
  have h6 := O.2.1
  have s1 : Sc M (wi M 130 0 0) := Sc.t0
  have L1 := s1.1.lay L
  have R1 := R.sc s1
  have S1 : RSt (mi (wi M 130 0 0) 162) (cn c) (ch c) T := by rw [t0row]; exact S
  refine R0.of (by decide +kernel) (Nat.le_of_ble_eq_true rfl) rfl (qX12_give_0 L rfl (K0.ans (d1 := d - 1) (by omega) (tX12_isHall L1 R1) ?_))
  cases q : sIn i (nI (ch c))
  · have e : cLies c (tvOf (cn c) T) i k = false := by unfold cLies; rw [q]; rfl
    exact qX12_give_10 L1 (fun _ => .inl ⟨e, rfl, s1⟩) (fun z => absurd rfl z)
  · obtain ⟨hl, hh, rfl⟩ := sIn_of (by omega) q
    refine qX12_give_10 L1 (fun z => absurd z (by decide)) (fun _ => K0.ans (d1 := d - 1) (by omega) (tX12_isShot L1 R1) ?_)
    cases q2 : sIn k (nI (cn c))
    · have e : cLies c (tvOf (cn c) T) (nI hl) k = false := by unfold cLies; rw [q2, Bool.false_and, Bool.and_false]
      exact qX12_give_18 L1 (fun z => absurd rfl z) (fun _ => .inl ⟨e, rfl, s1⟩) (fun z => absurd rfl z) (fun z => absurd rfl z)
    · obtain ⟨k, hk, rfl⟩ := sIn_of (by omega) q2
      have t1 := TO.1 k hk
      have e9 : (9 + nI k : Int32) = nI (9 + k) := nI_add 9 k
      have el : mi (wi M 130 0 0) 162 ((9 + nI k : Int32)).toNatClampNeg = nI hl + 1 ↔ T.1 k = hl + 1 := by
        rw [e9, nI_clamp (by omega), S1.2.2.2.2 k hk, nI_1]; exact nI_eq (by omega) (by omega)
      refine qX12_give_18 L1 (fun _ => by rw [e9]; exact vi (by omega) (by decide)) (fun z => absurd z (by decide)) (fun _ r => ?_) (fun _ r => .inl ⟨?_, rfl, s1⟩) <;> rw [el] at r
      · refine K0.set (d1 := d - 1) (by omega) (tX12_keeps L1 O S1 (U.fr s1.1 s1.2.2.1 (by omega)) (by omega)) ?_
        rintro rv M2 ⟨rfl, U2, k2, F2⟩
        have S2 : RSt (mi M2 162) (cn c) (ch c) T := by rw [F2.i (by omega)]; exact S1
        refine qX12_give_42 (F2.lay L1) (K0.set (d1 := d - 1) (by omega) (tX12_goesBack (F2.lay L1) O S2 hk) ?_)
        rintro rv M3 ⟨rfl, S3, F3⟩
        have L3 := F3.lay (F2.lay L1)
        have F03 : Fr inDd M M3 := ((Fr.rf.wi (.inl rfl)).trans (F2.mono (fun b hb => by omega))).trans (F3.mono (fun b hb => by omega))
        refine qX12_give_47 L3 (K0.ans (d1 := d - 1) (by omega) tX12_bits (qX12_give_56 (.inr ⟨by rw [lies_T O hh hk, decide_eq_true r], ?_, ?_⟩)))
        · rw [S3.1, nI_clamp (by omega)]
          exact congrArg (fun z => some (Value.int z)) (jBit_T h10)
        · rw [nI_clamp (by omega)]
          refine ⟨S3, U2.fr F3 (by rw [F3.i (by omega)]) (by omega), ?_, F03⟩
          rw [F3.i (by omega), k2]; exact s1.2.1
      · rw [lies_T O hh hk, decide_eq_false r]
theorem tX12_trade {i o k : Int32} (L : Lay M la lb pa pb0 rl) (R : RCo M c F) (O : COk c F) (S : RSt (mi M 162) (cn c) (ch c) T) (TO : TOk c T) (U : RUn M (cn c) (ch c) u) (hd : 2 ≤ d) : R0 g YX12_trade d [.ref 130, .int i, .int o, .int k] M (fun rv M1 => ((sIn o (nI (ch c)) && (!decide (i = o) && cLies c (tvOf (cn c) T) i k)) = false ∧ rv = some (.int 0) ∧ Sc M M1) ∨ ((sIn o (nI (ch c)) && (!decide (i = o) && cLies c (tvOf (cn c) T) i k)) = true ∧ rv = some (.int 1) ∧ RDd M M1 c (uPut u T) (tLay T k.toNatClampNeg (o.toNatClampNeg + 1)))) := by
  have h10 := O.1
  have h6 := O.2.1
  have s1 : Sc M (wi M 130 0 0) := Sc.t0
  have L1 := s1.1.lay L
  have R1 := R.sc s1
  have S1 : RSt (mi (wi M 130 0 0) 162) (cn c) (ch c) T := by rw [t0row]; exact S
  refine R0.of (by decide +kernel) (Nat.le_of_ble_eq_true rfl) rfl (qX12_trade_0 L rfl (K0.ans (d1 := d - 1) (by omega) (tX12_isHall L1 R1) ?_))
  cases q : sIn i (nI (ch c))
  · have e : (sIn o (nI (ch c)) && (!decide (i = o) && cLies c (tvOf (cn c) T) i k)) = false := by unfold cLies; rw [q, Bool.false_and, Bool.and_false, Bool.and_false]
    exact qX12_trade_10 L1 (fun _ => .inl ⟨e, rfl, s1⟩) (fun z => absurd rfl z)
  · obtain ⟨hl, hh, rfl⟩ := sIn_of (by omega) q
    refine qX12_trade_10 L1 (fun z => absurd z (by decide)) (fun _ => K0.ans (d1 := d - 1) (by omega) (tX12_isHall L1 R1) ?_)
    cases qo : sIn o (nI (ch c))
    · exact qX12_trade_18 L1 (fun _ => .inl ⟨rfl, rfl, s1⟩) (fun z => absurd rfl z) (fun z => absurd rfl z)
    · obtain ⟨ho, hho, rfl⟩ := sIn_of (by omega) qo
      refine qX12_trade_18 L1 (fun z => absurd z (by decide)) (fun _ z => .inl ⟨by rw [decide_eq_true z]; rfl, rfl, s1⟩) (fun _ zne => K0.ans (d1 := d - 1) (by omega) (tX12_isShot L1 R1) ?_)
      cases q2 : sIn k (nI (cn c))
      · have e : cLies c (tvOf (cn c) T) (nI hl) k = false := by unfold cLies; rw [q2, Bool.false_and, Bool.and_false]
        exact qX12_trade_31 L1 (fun z => absurd rfl z) (fun _ => .inl ⟨by rw [e, Bool.and_false, Bool.and_false], rfl, s1⟩) (fun z => absurd rfl z) (fun z => absurd rfl z)
      · obtain ⟨k, hk, rfl⟩ := sIn_of (by omega) q2
        have t1 := TO.1 k hk
        have e9 : (9 + nI k : Int32) = nI (9 + k) := nI_add 9 k
        have hv : vp_in (9 + nI k) 19 := by rw [e9]; exact vi (by omega) (by decide)
        have el : mi (wi M 130 0 0) 162 ((9 + nI k : Int32)).toNatClampNeg = nI hl + 1 ↔ T.1 k = hl + 1 := by
          rw [e9, nI_clamp (by omega), S1.2.2.2.2 k hk, nI_1]; exact nI_eq (by omega) (by omega)
        refine qX12_trade_31 L1 (fun _ => hv) (fun z => absurd z (by decide)) (fun _ r => ?_) (fun _ r => .inl ⟨?_, rfl, s1⟩) <;> rw [el] at r
        · refine K0.set (d1 := d - 1) (by omega) (tX12_keeps L1 O S1 (U.fr s1.1 s1.2.2.1 (by omega)) (by omega)) ?_
          rintro rv M2 ⟨rfl, U2, k2, F2⟩
          have S2 : RSt (mi M2 162) (cn c) (ch c) T := by rw [F2.i (by omega)]; exact S1
          have F3 : Fr (inC 162) M2 (wi M2 162 ((9 + nI k : Int32)).toNatClampNeg (nI ho + 1)) := Fr.rf.wi rfl
          have F03 : Fr inDd M (wi M2 162 ((9 + nI k : Int32)).toNatClampNeg (nI ho + 1)) := ((Fr.rf.wi (.inl rfl)).trans (F2.mono (fun b hb => by omega))).trans (F3.mono (fun b hb => by omega))
          refine qX12_trade_55 (F2.lay L1) rfl hv (.inr ⟨by rw [lies_T O hh hk, decide_eq_true r, decide_eq_false zne]; rfl, rfl, ?_, U2.fr F3 (by rw [F3.i (by omega)]) (by omega), ?_, F03⟩)
          · rw [nI_clamp (by omega), nI_clamp (by omega), e9, nI_clamp (by omega), nI_1]
            refine S2.back (k := k) (x := ho + 1) rfl h10 hk (.inr (by omega)) ?_ ?_ (fun j j0 j9 => ?_)
            · rw [wi_at, if_neg (by omega), if_neg (by omega)]
            · rw [wi_at, if_pos ⟨rfl, rfl⟩]
            · rw [wi_at, if_neg (by omega)]
          · rw [F3.i (by omega), k2]; exact s1.2.1
        · rw [lies_T O hh hk, decide_eq_false r, Bool.and_false, Bool.and_false]
theorem tX12_goes {i : Nat} (L : Lay M la lb pa pb0 rl) (R : RCo M c F) (O : COk c F) (S : RSt (mi M 162) (cn c) (ch c) T) (TO : TOk c T) (Q : RLn M 0 p) (PO : POc c p) (hi : i < p.1) (hd : 8 ≤ d) : R0 g YX12_goes d [.ref 130, .int (nI i)] M (fun rv M1 => rv = some (.int (b2i (jPos c T p i))) ∧ RSt (mi M1 162) (cn c) (ch c) (if jPos c T p i then jGo c T p i else T) ∧ Fr inG2 M M1) := by
  have h10 := O.1
  have h6 := O.2.1
  have p40 := PO.1
  obtain ⟨o1, o2, o3⟩ := PO.2 i hi
  obtain ⟨r1, r2, r3⟩ := Q.2 i hi
  rw [Nat.mul_zero, Nat.zero_add] at r1 r2 r3
  have ei : (nI i).toNatClampNeg = i := nI_clamp (by omega)
  have hv : vp_in (nI i) 240 := vi (by omega) (by decide)
  have ew : ∀ j : Nat, j < 100 → (mi M 155 (nI i).toNatClampNeg = nI j ↔ p.2.1 i = j) := fun j hj => by rw [ei, r1]; exact nI_eq (by omega) (by omega)
  have e0 : mi M 132 1 = 0 ↔ ch c = 0 := by rw [R.2.1, show (0 : Int32) = nI 0 from rfl]; exact nI_eq (by omega) (by decide)
  have e9 : ∀ s, s < cn c → (9 + nI s : Int32) = nI (9 + s) := fun s _ => nI_add 9 s
  have hnd : ¬ mi M 155 (nI i).toNatClampNeg = 0 → ¬ mi M 155 (nI i).toNatClampNeg = 3 → p.2.1 i = 1 ∨ p.2.1 i = 2 := fun a b => by
    have a : ¬ p.2.1 i = 0 := fun z => a ((ew 0 (by omega)).mpr z)
    have b : ¬ p.2.1 i = 3 := fun z => b ((ew 3 (by omega)).mpr z)
    omega
  have e8 : ¬ mi M 155 (nI i).toNatClampNeg = 0 → ¬ mi M 155 (nI i).toNatClampNeg = 3 → mi M 158 (nI i).toNatClampNeg = nI (p.2.2.2.2 i) := fun a b => by rw [ei]; exact (r2 (hnd a b)).2
  have v8 : ¬ mi M 155 (nI i).toNatClampNeg = 0 → ¬ mi M 155 (nI i).toNatClampNeg = 3 → vp_in (9 + mi M 158 (nI i).toNatClampNeg) 19 := fun a b => by
    have := (o2 (hnd a b)).2
    rw [e8 a b, e9 _ this]; exact vi (by omega) (by decide)
  have el : ∀ (a : ¬ mi M 155 (nI i).toNatClampNeg = 0) (b : ¬ mi M 155 (nI i).toNatClampNeg = 3), (mi M 162 ((9 + mi M 158 (nI i).toNatClampNeg : Int32)).toNatClampNeg = mi M 156 (nI i).toNatClampNeg + 1 ↔ T.1 (p.2.2.2.2 i) = p.2.2.1 i + 1) := fun a b => by
    have h := o2 (hnd a b)
    have t1 := TO.1 _ h.2
    rw [e8 a b, e9 _ h.2, nI_clamp (by omega), S.2.2.2.2 _ h.2, ei, (r2 (hnd a b)).1, nI_1]
    exact nI_eq (by omega) (by omega)
  refine R0.of (by decide +kernel) (Nat.le_of_ble_eq_true rfl) rfl (qX12_goes_0 L rfl hv hv v8 (fun _ _ => hv) (fun _ _ _ _ => hv) (fun a b _ _ => v8 a b) (fun a b r e => ?_) (fun a b r e => ?_) (fun a b r => ?_) (fun a b => ?_) (fun a b => ?_) (fun a b => ?_))
  · rw [el a b] at r
    have hw : p.2.1 i = 2 := by
      have e : ¬ p.2.1 i = 1 := fun z => e ((ew 1 (by omega)).mpr z)
      have := hnd a b
      omega
    have jp : jPos c T p i = true := by unfold jPos; rw [if_neg (by omega), if_neg (by omega), decide_eq_true r]
    have jg : jGo c T p i = tLay T (p.2.2.2.2 i) (p.2.2.2.1 i + 1) := by unfold jGo; rw [if_neg (by omega), if_neg (by omega), if_neg (by omega)]
    rw [jp, if_pos rfl, jg]
    have hk := (o2 (hnd a b)).2
    refine ⟨rfl, ?_, Fr.rf.wi (.inr rfl)⟩
    rw [e8 a b, e9 _ hk, nI_clamp (by omega), ei, r3 hw, nI_1]
    refine S.back (k := p.2.2.2.2 i) (x := p.2.2.2.1 i + 1) rfl h10 hk (.inr (by omega)) ?_ ?_ (fun j j0 j9 => ?_)
    · rw [wi_at, if_neg (by omega), if_neg (by omega)]
    · rw [wi_at, if_pos ⟨rfl, rfl⟩]
    · rw [wi_at, if_neg (by omega)]
  · rw [el a b] at r
    have hw : p.2.1 i = 1 := (ew 1 (by omega)).mp e
    have jp : jPos c T p i = true := by unfold jPos; rw [if_neg (by omega), if_neg (by omega), decide_eq_true r]
    have jg : jGo c T p i = tLay T (p.2.2.2.2 i) 0 := by unfold jGo; rw [if_neg (by omega), if_neg (by omega), if_pos hw]
    rw [jp, if_pos rfl, jg, e8 a b]
    refine K0.set (d1 := d - 1) (by omega) (tX12_goesBack L O S (o2 (hnd a b)).2) ?_
    rintro rv M2 ⟨rfl, S2, F2⟩
    exact qX12_goes_80 ⟨rfl, S2, F2.mono (fun b hb => .inr hb)⟩
  · rw [el a b] at r
    have hw := hnd a b
    have jp : jPos c T p i = false := by unfold jPos; rw [if_neg (by omega), if_neg (by omega), decide_eq_false r]
    rw [jp, if_neg (by decide)]
    exact ⟨rfl, S, Fr.rf⟩
  · have hw : p.2.1 i = 3 := (ew 3 (by omega)).mp b
    have jp : jPos c T p i = true := by unfold jPos; rw [if_neg (by omega), if_pos hw]
    have jg : jGo c T p i = tTurn T := by unfold jGo; rw [if_neg (by omega), if_pos hw]
    rw [jp, if_pos rfl, jg]
    refine K0.set (d1 := d - 1) (by omega) (tX12_turns L R O S TO) ?_
    rintro rv M2 ⟨rfl, S2, F2⟩
    exact qX12_goes_45 ⟨rfl, S2, F2.mono (fun b hb => .inr hb)⟩
  · have hw : p.2.1 i = 0 := (ew 0 (by omega)).mp a
    rw [e0] at b
    have jp : jPos c T p i = true := by unfold jPos; rw [if_pos hw, decide_eq_true b]
    have jg : jGo c T p i = shT c T := by unfold jGo; rw [if_pos hw]
    rw [jp, if_pos rfl, jg]
    have x0 := TO.2
    rw [if_neg b] at x0
    refine K0.set (d1 := d - 1) (by omega) (tX12_shows L R O S x0 (by omega)) ?_
    rintro rv M2 ⟨rfl, S2, F2⟩
    exact qX12_goes_33 ⟨rfl, S2, F2⟩
  · have hw : p.2.1 i = 0 := (ew 0 (by omega)).mp a
    rw [e0] at b
    have jp : jPos c T p i = false := by unfold jPos; rw [if_pos hw]; exact decide_eq_false (fun z => z b)
    rw [jp, if_neg (by decide)]
    exact ⟨rfl, S, Fr.rf⟩
end P2
