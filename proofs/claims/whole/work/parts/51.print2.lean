/-! ===== contracts of CountyPrint: by hand, sets ===== -/
abbrev inH : Nat → Prop := fun b => 39 ≤ b ∧ b ≤ 76
abbrev inY : Nat → Prop := fun b => b = 41 ∨ b = 42
def cNow (c : CD) (v : TV) : Int32 := cTk c (tNx v) (tp v)
def vSh (c : CD) (v : TV) : TV := vNext (vShow v (tNx v) (cNow c v)) (ch c)
section TX11b
variable {g : GG} {d : Nat} {M : MM} {la lb pa pb rl : Nat} {c : CD} {v : TV} {u : UV} {q : PV} {w : SV}
theorem Lay.la_lt (L : Lay M la lb pa pb rl) : la = 1 ∨ la = 13 := by rcases L.2.2.2.1 with h | h <;> omega
theorem Lay.pa_lt (L : Lay M la lb pa pb rl) : pa = 29 ∨ pa = 34 := by rcases L.2.2.2.2.1 with h | h <;> omega
theorem cShowNext {t : Nat} (L : Lay M la lb pa pb rl) (K : CoIs M la c) (C : Trv M t) (V : TrIs M t v) (O : tOk c v) (ht : t = 39 ∨ t = 41) (h0 : ch c ≠ 0) (hd : 5 ≤ d) : R0 g YX10_showNext d [.ref t, .ref la] M (fun rv M1 => rv = some (.int (tp v &&& (cNow c v ^^^ (-1)))) ∧ TrIs M1 t (vSh c v) ∧ Fr (inT t) M M1) := by
  obtain ⟨h1, h2⟩ := O.nx K.2.2.2.1 h0
  have hla := L.la_lt
  have := tX10_showNext (g := g) (d := d) C L.cla V h2 K.1 K.2.1 K.2.2.1 K.2.2.2.1 h1 (fun hb => by rcases hb with hb | hb <;> omega) hd
  rw [K.2.2.2.2.1, K.2.2.2.2.2.2.2.1, K.2.2.2.2.2.2.2.2] at this
  exact this
theorem tOk.show (O : tOk c v) (h6 : ch c ≤ 6) (h0 : ch c ≠ 0) : tOk c (vSh c v) := by
  obtain ⟨h1, h2⟩ := O.nx h6 h0
  unfold tOk
  rw [if_neg h0]
  unfold vSh vNext
  have eu : tu (vShow v (tNx v) (cNow c v)) = tu v := rfl
  have ex : tx (vShow v (tNx v) (cNow c v)) = nI (tNx v) := h2
  have es := spl_nI (v := v) h6 h1
  have hs := spl_lt (v := v) h1
  simp only [eu, ex, es, nI_1]
  by_cases q : spl c v (tNx v) + 1 < ch c
  · rw [if_pos ((nI_ltI (by omega) (by omega)).mpr q)]
    refine ⟨spl c v (spl c v (tNx v) + 1), spl_lt q, ?_⟩
    exact spl_nI (v := v) h6 q
  · rw [if_neg (fun r => q ((nI_ltI (by omega) (by omega)).mp r))]
    refine ⟨spl c v 0, spl_lt (by omega), ?_⟩
    have := spl_nI (c := c) (v := v) (k := 0) h6 (by omega)
    rw [nI_0] at this
    exact this
theorem tX11_show (L : Lay M la lb pa pb rl) (K : CoIs M la c) (V : TrIs M 39 v) (O : tOk c v) (U : PsIs M u) (hd : 6 ≤ d) : R0 g YX11_show d [.ref 0] M (fun rv M1 => (ch c = 0 ∧ rv = some (.int (-1)) ∧ M1 = M) ∨ (ch c ≠ 0 ∧ rv = some (.int (cMin c (tp v &&& (cNow c v ^^^ (-1))))) ∧ PsIs M1 (uKeep u v) ∧ TrIs M1 39 (vSh c v) ∧ Fr inH M M1)) := by
  have hla := L.la_lt
  refine R0.of (by decide +kernel) (Nat.le_of_ble_eq_true rfl) rfl (qX11_show_0 L (fun r => ?_) (fun r => ?_)) <;> rw [K.2.2.1, h0 K.2.2.2.1] at r
  · refine K0.set (d1 := d - 1) (by omega) (tX4_keep L L.tn V U (by omega) (by omega)) ?_
    rintro rv M1 ⟨rfl, U1, F1⟩
    have K1 : CoIs M1 la c := K.fr F1 (fun k hk hb => by omega)
    have V1 : TrIs M1 39 v := V.fr F1 (fun hb => by omega) (fun hb => by omega)
    refine qX11_show_23 (F1.lay L) (K0.set (d1 := d - 1) (by omega) (cShowNext (F1.lay L) K1 (F1.lay L).tn V1 O (Or.inl rfl) r (by omega)) ?_)
    rintro rv M2 ⟨rfl, V2, F2⟩
    have K2 : CoIs M2 la c := K1.fr F2 (fun k hk hb => by rcases hb with hb | hb <;> omega)
    have L2 := F2.lay (F1.lay L)
    refine qX11_show_38 L2.cla.o (K0.ans (d1 := d - 1) (by omega) (cMinutes L2.cla K2) (qX11_show_41 (Or.inr ⟨r, rfl, U1.fr F2 (fun b h1 h2 hb => by rcases hb with hb | hb <;> omega), V2, (F1.mono (fun b hb => by omega)).trans (F2.mono (fun b hb => by rcases hb with hb | hb <;> omega))⟩)))
  · exact Or.inl ⟨r, rfl, rfl⟩
theorem tX11_give {i k : Int32} (L : Lay M la lb pa pb rl) (K : CoIs M la c) (V : TrIs M 39 v) (U : PsIs M u) (hd : 3 ≤ d) : R0 g YX11_give d [.ref 0, .int i, .int k] M (fun rv M1 => (cLies c v i k = false ∧ rv = some (.int (-1)) ∧ M1 = M) ∨ (cLies c v i k = true ∧ rv = some (.int (jBit (tp (vGive v i.toNatClampNeg k)))) ∧ PsIs M1 (uKeep u v) ∧ TrIs M1 39 (vGive v i.toNatClampNeg k) ∧ Fr inH M M1)) := by
  refine R0.of (by decide +kernel) (Nat.le_of_ble_eq_true rfl) rfl (qX11_give_0 L (K0.ans (d1 := d - 1) (by omega) (tX11_liesIn L K V (by omega)) (qX11_give_6 L (fun r => ?_) (fun r => ?_))))
  · rw [b2i_n] at r
    have r2 := r
    unfold cLies at r2
    simp only [Bool.and_eq_true] at r2
    have h6 := K.2.2.2.1
    obtain ⟨j, hj, rfl⟩ := sIn_of (by omega) r2.1
    rw [nI_clamp (by omega)]
    refine K0.set (d1 := d - 1) (by omega) (tX4_keep L L.tn V U (by omega) (by omega)) ?_
    rintro rv M1 ⟨rfl, U1, F1⟩
    have V1 : TrIs M1 39 v := V.fr F1 (fun hb => by omega) (fun hb => by omega)
    refine qX11_give_22 (F1.lay L) (K0.set (d1 := d - 1) (by omega) (tX10_giveBack (F1.lay L).tn V1 (by omega) r2.2.2 (by omega)) ?_)
    rintro rv M2 ⟨rfl, V2, F2⟩
    refine qX11_give_31 (F2.lay (F1.lay L)) ?_
    rw [V2.1]
    exact K0.ans (d1 := d - 1) (by omega) tJ6_bitCount (qX11_give_41 (Or.inr ⟨r, rfl, U1.fr F2 (fun b h1 h2 hb => by rcases hb with hb | hb <;> omega), V2, (F1.mono (fun b hb => by omega)).trans (F2.mono (fun b hb => by rcases hb with hb | hb <;> omega))⟩))
  · rw [b2i_z] at r
    exact Or.inl ⟨r, rfl, rfl⟩
theorem tX11_trade {i o k : Int32} (L : Lay M la lb pa pb rl) (K : CoIs M la c) (V : TrIs M 39 v) (U : PsIs M u) (hd : 3 ≤ d) : R0 g YX11_trade d [.ref 0, .int i, .int o, .int k] M (fun rv M1 => ((sIn o (nI (ch c)) && (!decide (i = o) && cLies c v i k)) = false ∧ rv = some (.int 0) ∧ M1 = M) ∨ ((sIn o (nI (ch c)) && (!decide (i = o) && cLies c v i k)) = true ∧ rv = some (.int 1) ∧ PsIs M1 (uKeep u v) ∧ TrIs M1 39 (vHand v i.toNatClampNeg o.toNatClampNeg k) ∧ Fr inH M M1)) := by
  refine R0.of (by decide +kernel) (Nat.le_of_ble_eq_true rfl) rfl (qX11_trade_0 L (K0.ans (d1 := d - 1) (by omega) (cIsHall L.cla K) (qX11_trade_8 L (fun r => ?_) (fun r1 r2 => ?_) (fun r1 r2 => ?_))))
  · rw [b2i_z] at r
    exact Or.inl ⟨by simp [r], rfl, rfl⟩
  · exact Or.inl ⟨by simp [r2], rfl, rfl⟩
  · rw [b2i_n] at r1
    refine K0.ans (d1 := d - 1) (by omega) (tX11_liesIn L K V (by omega)) (qX11_trade_22 L (fun r => ?_) (fun r => ?_))
    · rw [b2i_n] at r
      have r3 := r
      unfold cLies at r3
      simp only [Bool.and_eq_true] at r3
      have h6 := K.2.2.2.1
      obtain ⟨j, hj, rfl⟩ := sIn_of (by omega) r3.1
      obtain ⟨j2, hj2, rfl⟩ := sIn_of (by omega) r1
      rw [nI_clamp (by omega), nI_clamp (by omega)]
      refine K0.set (d1 := d - 1) (by omega) (tX4_keep L L.tn V U (by omega) (by omega)) ?_
      rintro rv M1 ⟨rfl, U1, F1⟩
      have V1 : TrIs M1 39 v := V.fr F1 (fun hb => by omega) (fun hb => by omega)
      refine qX11_trade_38 (F1.lay L) (K0.set (d1 := d - 1) (by omega) (tX10_handOver (F1.lay L).tn V1 (by omega) (by omega) r3.2.2 (by omega)) ?_)
      rintro rv M2 ⟨rfl, V2, F2⟩
      exact qX11_trade_48 (Or.inr ⟨by simp [r1, r2, r], rfl, U1.fr F2 (fun b h1 h2 hb => by rcases hb with hb | hb <;> omega), V2, (F1.mono (fun b hb => by omega)).trans (F2.mono (fun b hb => by rcases hb with hb | hb <;> omega))⟩)
    · rw [b2i_z] at r
      exact Or.inl ⟨by simp [r], rfl, rfl⟩
theorem tX11_turn (L : Lay M la lb pa pb rl) (K : CoIs M la c) (V : TrIs M 39 v) (U : PsIs M u) (hd : 3 ≤ d) : R0 g YX11_turn d [.ref 0] M (fun rv M1 => rv = some (.int (if ch c = 0 then -1 else tx v)) ∧ PsIs M1 (uKeep u v) ∧ TrIs M1 39 (tp v, td v, !tu v, tx v, tt v) ∧ Fr inH M M1) := by
  have hla := L.la_lt
  refine R0.of (by decide +kernel) (Nat.le_of_ble_eq_true rfl) rfl (qX11_turn_0 L (K0.set (d1 := d - 1) (by omega) (tX4_keep L L.tn V U (by omega) (by omega)) ?_))
  rintro rv M1 ⟨rfl, U1, F1⟩
  have V1 : TrIs M1 39 v := V.fr F1 (fun hb => by omega) (fun hb => by omega)
  refine qX11_turn_11 (F1.lay L) (K0.set (d1 := d - 1) (by omega) (tX10_turnRound (F1.lay L).tn V1) ?_)
  rintro rv M2 ⟨rfl, V2, F2⟩
  have L2 := F2.lay (F1.lay L)
  have K2 : CoIs M2 la c := (K.fr F1 (fun k hk hb => by omega)).fr F2 (fun k hk hb => by rcases hb with hb | hb <;> omega)
  exact qX11_turn_18 L2 (K0.ans (d1 := d - 1) (by omega) (tX11_nextHall L2 K2 V2) (qX11_turn_22 ⟨rfl, U1.fr F2 (fun b h1 h2 hb => by rcases hb with hb | hb <;> omega), V2, (F1.mono (fun b hb => by omega)).trans (F2.mono (fun b hb => by rcases hb with hb | hb <;> omega))⟩))
theorem tX11_undo (L : Lay M la lb pa pb rl) (V : TrIs M 39 v) (U : PsIs M u) (hd : 2 ≤ d) : R0 g YX11_undo d [.ref 0] M (fun rv M1 => (u.2.1 = 0 ∧ rv = some (.int 0) ∧ M1 = M) ∨ (0 < u.2.1 ∧ rv = some (.int 1) ∧ PsIs M1 (uBack u) ∧ TrIs M1 39 (u.2.2 ((u.1 + 15) % 16)) ∧ Fr inH M M1)) := by
  refine R0.of (by decide +kernel) (Nat.le_of_ble_eq_true rfl) rfl (qX11_undo_0 L (K0.set (d1 := d - 1) (by omega) (tX4_takeBack L L.tn V U (by omega) (by omega)) ?_))
  rintro rv M1 (⟨h1, rfl, rfl⟩ | ⟨h1, rfl, h2, h3, h4⟩)
  · exact qX11_undo_11 rfl (Or.inl ⟨h1, rfl, rfl⟩)
  · exact qX11_undo_11 rfl (Or.inr ⟨h1, rfl, h2, h3, h4.mono (fun b hb => by rcases hb with hb | hb | hb <;> omega)⟩)
def cShot (c : CD) (v : TV) (i x : Int32) : Int32 := if sIn i (nI (cn c)) then (if x.toInt = 0 then csrt c i.toNatClampNeg else if x.toInt = 1 then clen c i.toNatClampNeg else if x.toInt = 2 then cnds c i.toNatClampNeg else if x.toInt = 3 then ((tp v >>> (i &&& 31)) &&& 1) else -2) else -2
theorem tX11_shot {i x : Int32} (L : Lay M la lb pa pb rl) (K : CoIs M la c) (V : TrIs M 39 v) (hd : 1 ≤ d) : R0 g YX11_shot d [.ref 0, .int i, .int x] M (Ans (cShot c v i x) M) := by
  have h10 := K.2.1
  refine R0.of (by decide +kernel) (Nat.le_of_ble_eq_true rfl) rfl (qX11_shot_0 L (K0.ans (d1 := d - 1) (by omega) (cIsShot L.cla K) ?_))
  have hv : ¬ b2i (sIn i (nI (cn c))) = 0 → vp_in i 10 := fun r => by
    rw [b2i_n] at r
    obtain ⟨j, hj, rfl⟩ := sIn_of (by omega) r
    exact vi (by omega) (by decide)
  refine qX11_shot_8 L (fun r _ => hv r) (fun r _ => hv r) (fun r _ => hv r) (fun r r2 => ?_) (fun r r2 => ?_) (fun r r2 => ?_) (fun r r2 => ?_) (fun r r2 => ?_) (fun r => ?_)
  · rw [b2i_n] at r
    refine ⟨?_, rfl⟩
    unfold cShot
    rw [if_pos r, if_neg (by omega), if_neg (by omega), if_neg (by omega), if_neg (by omega)]
  · rw [b2i_n] at r
    refine ⟨?_, rfl⟩
    unfold cShot
    rw [if_pos r, if_pos r2, K.2.2.2.2.1]
  · rw [b2i_n] at r
    refine ⟨?_, rfl⟩
    unfold cShot
    rw [if_pos r, if_neg (by omega), if_pos r2, K.2.2.2.2.2.1]
  · rw [b2i_n] at r
    refine ⟨?_, rfl⟩
    unfold cShot
    rw [if_pos r, if_neg (by omega), if_neg (by omega), if_pos r2, K.2.2.2.2.2.2.1]
  · rw [b2i_n] at r
    refine ⟨?_, rfl⟩
    unfold cShot
    rw [if_pos r, if_neg (by omega), if_neg (by omega), if_neg (by omega), if_pos r2, V.1]
  · rw [b2i_z] at r
    refine ⟨?_, rfl⟩
    unfold cShot
    rw [r]; rfl
def cHall (c : CD) (v : TV) (i x : Int32) : Int32 := if sIn i (nI (ch c)) then (if x.toInt = 0 then ckd c i.toNatClampNeg else if x.toInt = 1 then td v i.toNatClampNeg else if x.toInt = 2 then nI (spl c v i.toNatClampNeg) else if x.toInt = 3 then cTk c i.toNatClampNeg (tp v) else -1) else -1
theorem tX11_hall {i x : Int32} (L : Lay M la lb pa pb rl) (K : CoIs M la c) (V : TrIs M 39 v) (hd : 4 ≤ d) : R0 g YX11_hall d [.ref 0, .int i, .int x] M (Ans (cHall c v i x) M) := by
  have h6 := K.2.2.2.1
  refine R0.of (by decide +kernel) (Nat.le_of_ble_eq_true rfl) rfl (qX11_hall_0 L (K0.ans (d1 := d - 1) (by omega) (cIsHall L.cla K) ?_))
  cases r : sIn i (nI (ch c)) with
  | false =>
    refine qX11_hall_8 L (fun q => absurd rfl q) (fun q => absurd rfl q) (fun q => absurd rfl q) (fun q => absurd rfl q) (fun q => absurd rfl q) (fun q => absurd rfl q) (fun q => absurd rfl q) (fun _ => ⟨?_, rfl⟩)
    unfold cHall
    rw [r]; rfl
  | true =>
    obtain ⟨j, hj, rfl⟩ := sIn_of (by omega) r
    have ec : (nI j).toNatClampNeg = j := nI_clamp (by omega)
    refine qX11_hall_8 L (fun _ _ => vi (by omega) (by decide)) (fun _ _ => vi (by omega) (by decide)) (fun _ r2 => ⟨?_, rfl⟩) (fun _ r2 => ⟨?_, rfl⟩) (fun _ r2 => ⟨?_, rfl⟩) (fun _ r2 => ?_) (fun _ r2 => ?_) (fun q => absurd q (by decide))
    · unfold cHall
      rw [if_pos r, if_neg (by omega), if_neg (by omega), if_neg (by omega), if_neg (by omega)]
    · unfold cHall
      rw [if_pos r, if_pos r2, K.2.2.2.2.2.2.2.1]
    · unfold cHall
      rw [if_pos r, if_neg (by omega), if_pos r2, ec, show mi M 40 j = td v j from V.2.1 j (by omega)]
    · refine K0.ans (d1 := d - 1) (by omega) (cSwap L.tn V L.cla K hj) (qX11_hall_76 ⟨?_, rfl⟩)
      unfold cHall
      rw [if_pos r, if_neg (by omega), if_neg (by omega), if_pos r2, ec]
    · rw [V.1]
      refine K0.ans (d1 := d - 1) (by omega) (cTaken L.cla K hj (by omega)) (qX11_hall_92 ⟨?_, rfl⟩)
      unfold cHall
      rw [if_pos r, if_neg (by omega), if_neg (by omega), if_neg (by omega), if_pos r2, ec]
/-- in how many shows the print is empty: n have been -/
def lastF (c : CD) : Nat → Nat → TV → Int32
  | 0, _, _ => -1
  | j + 1, k, v => if tp v = 0 then nI k else if ch c = 0 then -1 else lastF c j (k + 1) (vSh c v)
theorem tX11_lasts (L : Lay M la lb pa pb rl) (K : CoIs M la c) (V : TrIs M 39 v) (O : tOk c v) (hd : 6 ≤ d) : R0 g YX11_lasts d [.ref 0] M (fun rv M1 => rv = some (.int (lastF c 100 0 v)) ∧ Fr inY M M1) := by
  have hla := L.la_lt
  have h6 := K.2.2.2.1
  refine R0.of (by decide +kernel) (Nat.le_of_ble_eq_true rfl) rfl (qX11_lasts_0 L (K0.set (d1 := d - 1) (by omega) (tX10_copy L.tt L.tn V ⟨by omega, by omega, by omega⟩) ?_))
  rintro rv M1 ⟨rfl, V1, F1⟩
  refine qX11_lasts_11 ?_
  refine up0 (p := fun k => ∀ M1 v, Fr inY M M1 → TrIs M1 41 v → tOk c v → E0 g YX11_lasts d 13 [(0, .ref 0), (1, .int (nI k))] [] M1 (fun rv M2 => rv = some (.int (lastF c (100 - k) k v)) ∧ Fr inY M M2)) 100 (fun M1 v F V O => ?_) (fun k hk ih M1 v F V O => ?_) M1 v F1 V1 O
  · rw [Nat.sub_self]
    exact qX11_lasts_13 (F.lay L) (fun _ => ⟨rfl, F⟩) (fun r => absurd (by decide) r) (fun r => absurd (by decide) r) (fun r => absurd (by decide) r)
  · have e : 100 - k = (100 - (k + 1)) + 1 := by omega
    have n99 : ¬ (99 : Int32) < nI k := by
      rw [show (99 : Int32) = nI 99 from rfl, nI_ltI (by omega) (by omega)]; omega
    have K1 : CoIs M1 la c := K.fr F (fun k hk hb => by rcases hb with hb | hb <;> omega)
    rw [e, lastF]
    refine qX11_lasts_13 (F.lay L) (fun r => absurd r n99) (fun _ r1 r2 => ?_) (fun _ r1 r2 => ?_) (fun _ r1 => ?_)
    · rw [V.1] at r1
      rw [K1.2.2.1, h0 h6] at r2
      rw [if_neg r1, if_neg r2]
      refine K0.set (d1 := d - 1) (by omega) (cShowNext (F.lay L) K1 (F.lay L).tt V O (Or.inr rfl) r2 (by omega)) ?_
      rintro rv M2 ⟨rfl, V2, F2⟩
      refine qX11_lasts_54 ?_
      rw [nI_1]
      exact ih M2 _ (F.trans F2) V2 (O.show h6 r2)
    · rw [V.1] at r1
      rw [K1.2.2.1, h0 h6] at r2
      rw [if_neg r1, if_pos r2]; exact ⟨rfl, F⟩
    · rw [V.1] at r1
      rw [if_pos r1]; exact ⟨rfl, F⟩
end TX11b
