/-! ===== the reference: a county told ===== -/
theorem SegIs.sh {M M1 : MM} {a : Nat} : ∀ {b rc}, SegIs M a (1000 + b) rc → b + rc.length ≤ 1000 → (∀ j, j < 1000 → mi M1 (a + 1) j = mi M (a + 1) (1000 + j)) → SegIs M1 a b rc
  | _, [], _, _, _ => trivial
  | b, c :: rc, q, hl, h => by
    have hl : b + (rc.length + 1) ≤ 1000 := hl
    exact ⟨by rw [h b (by omega)]; exact q.1, SegIs.sh (b := b + 1) q.2 (by omega) h⟩
/-- what was told, as the reference keeps it -/
def RTd (M : MM) (D : DTs) : Prop := RNm M 0 D ∧ (∀ k, k < dn D → mi M 135 k = nI (dso D k) ∧ mi M 136 k = nI (dle D k) ∧ mi M 137 k = dnd D k) ∧ ∀ k, k < dh D → mi M 138 k = nI (dki D k) ∧ RLw M k (rfv (dlw D k))
/-- the class's county c is D -/
def CofD (c : CD) (D : DTs) : Prop := cn c = dn D ∧ ch c = dh D ∧ (∀ k, k < dn D → csrt c k = nI (dso D k) ∧ clen c k = nI (dle D k) ∧ cnds c k = dnd D k) ∧ ∀ k, k < dh D → ckd c k = nI (dki D k)
abbrev lwF (D : DTs) : Nat → (Nat → Int32) → Int32 := fun hl => rfv (dlw D hl)
theorem RTd.co {M : MM} {D : DTs} {c : CD} (h : RTd M D) (hc : CofD c D) : RCo M c (lwF D) := by
  obtain ⟨⟨a1, a2, -, -⟩, b, e⟩ := h
  obtain ⟨c1, c2, c3, c4⟩ := hc
  refine ⟨by rw [c1]; exact a1, by rw [c2]; exact a2, fun k hk => ?_, fun k hk => ?_, fun k hk => ?_⟩
  · rw [c1] at hk
    rw [(c3 k hk).1, (c3 k hk).2.1, (c3 k hk).2.2]; exact b k hk
  · rw [c2] at hk
    rw [c4 k hk]; exact (e k hk).1
  · rw [c2] at hk
    exact (e k hk).2
def cOf (D : DTs) : CD := (dn D, dh D, fun k => nI (dso D k), fun k => nI (dle D k), dnd D, fun k => nI (dki D k), fun _ => 0)
theorem cOf_D (D : DTs) : CofD (cOf D) D := ⟨rfl, rfl, fun _ _ => ⟨rfl, rfl, rfl⟩, fun _ _ => rfl⟩
theorem COk_D {c : CD} {D : DTs} (O : DOk D) (hc : CofD c D) (hv : VdD (cvd c) (csrt c) (clen c) (lwF D) (cn c) (ch c) 600) : COk c (lwF D) := by
  obtain ⟨c1, c2, c3, c4⟩ := hc
  obtain ⟨o1, o2, o3, o4⟩ := O
  refine ⟨by omega, by omega, fun k hk => ⟨dso D k, (o3 k (by omega)).2.1, (c3 k (by omega)).1⟩, hv, fun k hk => ⟨dki D k, (o4 k (by omega)).2.1, c4 k (by omega)⟩, fun hl hk => ?_, fun k hk => ⟨dle D k, (o3 k (by omega)).2.2.1, (o3 k (by omega)).2.2.2.1, (c3 k (by omega)).2.1⟩, fun k hk i hi hb => ?_⟩
  · obtain ⟨n, t, f, p, e, r0⟩ := (o4 hl (by omega)).2.2
    show ExF (rfv (dlw D hl))
    rw [e] at r0 ⊢
    exact (pEx_ext f 4 0 p prOut (by omega) r0).1 (by omega)
  · rw [(c3 k (by omega)).2.2] at hb
    have := (o3 k (by omega)).2.2.2.2 i hi hb
    omega
section LY
variable {g : GG} {d : Nat} {M M1 M2 : MM} {la lb pa pb0 rl n p : Nat} {t : Nat → Nat} {D : DTs}
theorem tX12_shifts {a m N : Nat} (A : ar M a 1 N) (hN : m + m ≤ N) (hN2 : N ≤ 2000) : R0 g YX12_shifts d [.ref a, .int (nI m)] M (fun rv M1 => rv = none ∧ (∀ k, mi M1 a k = if k < m then mi M a (m + k) else mi M a k) ∧ Fr (inC a) M M1) := by
  refine R0.of (by decide +kernel) (Nat.le_of_ble_eq_true rfl) rfl (qX12_shifts_0 ?_)
  have key := up0 (p := fun i => ∀ M1, (∀ k, mi M1 a k = if k < i then mi M a (m + k) else mi M a k) → Fr (inC a) M M1 → E0 g YX12_shifts d 2 [(0, .ref a), (1, .int (nI m)), (2, .int (nI i))] [] M1 (fun rv M1 => rv = none ∧ (∀ k, mi M1 a k = if k < m then mi M a (m + k) else mi M a k) ∧ Fr (inC a) M M1)) m (fun M1 B F1 => ?_) (fun i hi ih M1 B F1 => ?_)
  · exact key M (fun k => by rw [if_neg (by omega)]) Fr.rf
  · have h1' : ar M1 a 1 N := by unfold ar; rw [F1.1, F1.2.1]; exact A
    have le : nI m ≤ nI m := Int32.le_refl _
    exact qX12_shifts_2 rfl h1' (fun z => absurd le z) (fun z => absurd le z) (fun _ => ⟨rfl, B, F1⟩) (fun z => absurd le z)
  · have h1' : ar M1 a 1 N := by unfold ar; rw [F1.1, F1.2.1]; exact A
    have nle : ¬ nI m ≤ nI i := by rw [nI_leI (by omega) (by omega)]; omega
    refine qX12_shifts_2 (M1 := wi M1 a i (mi M1 a (m + i))) (by rw [nI_add, nI_clamp (by omega), nI_clamp (by omega)]) h1' (fun _ => by rw [nI_add]; exact vi (by omega) (by omega)) (fun _ => vi (by omega) (by omega)) (fun z => absurd z nle) (fun _ => ?_)
    rw [nI_1]
    refine ih _ (fun k => ?_) (F1.wi rfl)
    rw [wi_at]
    by_cases z : k = i
    · rw [if_pos ⟨rfl, z⟩, if_pos (by omega), B, if_neg (by omega), z]
    · rw [if_neg (fun y => z y.2), B]
      by_cases z2 : k < i
      · rw [if_pos z2, if_pos (by omega)]
      · rw [if_neg z2, if_neg (by omega)]
theorem tX12_shiftsNames {a m N : Nat} (A : ar M a 2 N) (hN : m + m ≤ N) (hN2 : N ≤ 2000) : R0 g YX12_shiftsNames d [.ref a, .int (nI m)] M (fun rv M1 => rv = none ∧ (∀ k, mj M1 a k = if k < m then mj M a (m + k) else mj M a k) ∧ Fr (inC a) M M1) := by
  refine R0.of (by decide +kernel) (Nat.le_of_ble_eq_true rfl) rfl (qX12_shiftsNames_0 ?_)
  have key := up0 (p := fun i => ∀ M1, (∀ k, mj M1 a k = if k < i then mj M a (m + k) else mj M a k) → Fr (inC a) M M1 → E0 g YX12_shiftsNames d 2 [(0, .ref a), (1, .int (nI m)), (2, .int (nI i))] [] M1 (fun rv M1 => rv = none ∧ (∀ k, mj M1 a k = if k < m then mj M a (m + k) else mj M a k) ∧ Fr (inC a) M M1)) m (fun M1 B F1 => ?_) (fun i hi ih M1 B F1 => ?_)
  · exact key M (fun k => by rw [if_neg (by omega)]) Fr.rf
  · have h1' : ar M1 a 2 N := by unfold ar; rw [F1.1, F1.2.1]; exact A
    have le : nI m ≤ nI m := Int32.le_refl _
    exact qX12_shiftsNames_2 rfl h1' (fun z => absurd le z) (fun z => absurd le z) (fun _ => ⟨rfl, B, F1⟩) (fun z => absurd le z)
  · have h1' : ar M1 a 2 N := by unfold ar; rw [F1.1, F1.2.1]; exact A
    have nle : ¬ nI m ≤ nI i := by rw [nI_leI (by omega) (by omega)]; omega
    refine qX12_shiftsNames_2 (M1 := wj M1 a i (mj M1 a (m + i))) (by rw [nI_add, nI_clamp (by omega), nI_clamp (by omega)]) h1' (fun _ => by rw [nI_add]; exact vi (by omega) (by omega)) (fun _ => vi (by omega) (by omega)) (fun z => absurd z nle) (fun _ => ?_)
    rw [nI_1]
    refine ih _ (fun k => ?_) (F1.wj rfl)
    rw [wj_at]
    by_cases z : k = i
    · rw [if_pos ⟨rfl, z⟩, if_pos (by omega), B, if_neg (by omega), z]
    · rw [if_neg (fun y => z y.2), B]
      by_cases z2 : k < i
      · rw [if_pos z2, if_pos (by omega)]
      · rw [if_neg z2, if_neg (by omega)]
abbrev inLy : Nat → Prop := fun b => 132 ≤ b ∧ b ≤ 141
theorem tX12_lays (L : Lay M la lb pa pb0 rl) (R : RcD M D) (O : DOk D) (hN : rNl (dlw D) (dh D) ≤ 1000) (hd : 1 ≤ d) : R0 g YX12_lays d [.ref 130] M (fun rv M1 => rv = none ∧ RTd M1 D ∧ Fr inLy M M1) := by
  obtain ⟨o1, o2, o3, o4⟩ := O
  refine R0.of (by decide +kernel) (Nat.le_of_ble_eq_true rfl) rfl (qX12_lays_0 L (K0.set (d1 := d - 1) (by omega) (tX12_shifts (a := 132) (m := 2) (L.s (a := 132) rfl (by decide)) (by omega) (by omega)) ?_))
  rintro rv M1 ⟨rfl, A1, F1⟩
  have L1 := F1.lay L
  refine qX12_lays_8 L1 (K0.set (d1 := d - 1) (by omega) (tX12_shiftsNames (a := 133) (m := 10) (L1.s (a := 133) rfl (by decide)) (by omega) (by omega)) ?_)
  rintro rv M2 ⟨rfl, A2, F2⟩
  have L2 := F2.lay L1
  refine qX12_lays_17 L2 (K0.set (d1 := d - 1) (by omega) (tX12_shiftsNames (a := 134) (m := 6) (L2.s (a := 134) rfl (by decide)) (by omega) (by omega)) ?_)
  rintro rv M3 ⟨rfl, A3, F3⟩
  have L3 := F3.lay L2
  refine qX12_lays_26 L3 (K0.set (d1 := d - 1) (by omega) (tX12_shifts (a := 135) (m := 10) (L3.s (a := 135) rfl (by decide)) (by omega) (by omega)) ?_)
  rintro rv M4 ⟨rfl, A4, F4⟩
  have L4 := F4.lay L3
  refine qX12_lays_35 L4 (K0.set (d1 := d - 1) (by omega) (tX12_shifts (a := 136) (m := 10) (L4.s (a := 136) rfl (by decide)) (by omega) (by omega)) ?_)
  rintro rv M5 ⟨rfl, A5, F5⟩
  have L5 := F5.lay L4
  refine qX12_lays_44 L5 (K0.set (d1 := d - 1) (by omega) (tX12_shifts (a := 137) (m := 10) (L5.s (a := 137) rfl (by decide)) (by omega) (by omega)) ?_)
  rintro rv M6 ⟨rfl, A6, F6⟩
  have L6 := F6.lay L5
  refine qX12_lays_53 L6 (K0.set (d1 := d - 1) (by omega) (tX12_shifts (a := 138) (m := 6) (L6.s (a := 138) rfl (by decide)) (by omega) (by omega)) ?_)
  rintro rv M7 ⟨rfl, A7, F7⟩
  have L7 := F7.lay L6
  refine qX12_lays_62 L7 (K0.set (d1 := d - 1) (by omega) (tX12_shifts (a := 141) (m := 1000) (L7.s (a := 141) rfl (by decide)) (by omega) (by omega)) ?_)
  rintro rv M8 ⟨rfl, A8, F8⟩
  have L8 := F8.lay L7
  have G : Fr inLy M M8 := (F1.mono (fun b hb => by omega)).trans ((F2.mono (fun b hb => by omega)).trans ((F3.mono (fun b hb => by omega)).trans ((F4.mono (fun b hb => by omega)).trans ((F5.mono (fun b hb => by omega)).trans ((F6.mono (fun b hb => by omega)).trans ((F7.mono (fun b hb => by omega)).trans (F8.mono (fun b hb => by omega))))))))
  have e132 : ∀ k, k < 2 → mi M8 132 k = mi M 132 (2 + k) := fun k hk => by rw [F8.i (by omega), F7.i (by omega), F6.i (by omega), F5.i (by omega), F4.i (by omega), F3.i (by omega), F2.i (by omega), A1, if_pos hk]
  have e133 : ∀ k, k < 10 → mj M8 133 k = mj M 133 (10 + k) := fun k hk => by rw [F8.j (by omega), F7.j (by omega), F6.j (by omega), F5.j (by omega), F4.j (by omega), F3.j (by omega), A2, if_pos hk, F1.j (by omega)]
  have e134 : ∀ k, k < 6 → mj M8 134 k = mj M 134 (6 + k) := fun k hk => by rw [F8.j (by omega), F7.j (by omega), F6.j (by omega), F5.j (by omega), F4.j (by omega), A3, if_pos hk, F2.j (by omega), F1.j (by omega)]
  have e135 : ∀ k, k < 10 → mi M8 135 k = mi M 135 (10 + k) := fun k hk => by rw [F8.i (by omega), F7.i (by omega), F6.i (by omega), F5.i (by omega), A4, if_pos hk, F3.i (by omega), F2.i (by omega), F1.i (by omega)]
  have e136 : ∀ k, k < 10 → mi M8 136 k = mi M 136 (10 + k) := fun k hk => by rw [F8.i (by omega), F7.i (by omega), F6.i (by omega), A5, if_pos hk, F4.i (by omega), F3.i (by omega), F2.i (by omega), F1.i (by omega)]
  have e137 : ∀ k, k < 10 → mi M8 137 k = mi M 137 (10 + k) := fun k hk => by rw [F8.i (by omega), F7.i (by omega), A6, if_pos hk, F5.i (by omega), F4.i (by omega), F3.i (by omega), F2.i (by omega), F1.i (by omega)]
  have e138 : ∀ k, k < 6 → mi M8 138 k = mi M 138 (6 + k) := fun k hk => by rw [F8.i (by omega), A7, if_pos hk, F6.i (by omega), F5.i (by omega), F4.i (by omega), F3.i (by omega), F2.i (by omega), F1.i (by omega)]
  have e141 : ∀ k, k < 1000 → mi M8 141 k = mi M 141 (1000 + k) := fun k hk => by rw [A8, if_pos hk, F7.i (by omega), F6.i (by omega), F5.i (by omega), F4.i (by omega), F3.i (by omega), F2.i (by omega), F1.i (by omega)]
  have e139 : mi M8 139 = mi M 139 := by rw [F8.i (by omega), F7.i (by omega), F6.i (by omega), F5.i (by omega), F4.i (by omega), F3.i (by omega), F2.i (by omega), F1.i (by omega)]
  have e140 : mi M8 140 = mi M 140 := by rw [F8.i (by omega), F7.i (by omega), F6.i (by omega), F5.i (by omega), F4.i (by omega), F3.i (by omega), F2.i (by omega), F1.i (by omega)]
  refine qX12_lays_72 ?_
  have key := up0 (p := fun i => ∀ M9, Fr (fun b => b = 139 ∨ b = 140) M8 M9 → (∀ k, mi M9 139 k = if k < i then mi M 139 (6 + k) - 1000 else mi M 139 k) → (∀ k, mi M9 140 k = if k < i then mi M 140 (6 + k) - 1000 else mi M 140 k) → E0 g YX12_lays d 74 [(0, .ref 130), (1, .int (nI i))] [] M9 (fun rv M1 => rv = none ∧ RTd M1 D ∧ Fr inLy M M1)) 6 (fun M9 F9 B1 B2 => ?_) (fun i hi ih M9 F9 B1 B2 => ?_)
  · exact key M8 Fr.rf (fun k => by rw [if_neg (by omega), e139]) (fun k => by rw [if_neg (by omega), e140])
  · obtain ⟨⟨a1, a2, a3, a4⟩, b, c, e⟩ := R
    refine qX12_lays_74 (F9.lay L8) rfl rfl (fun z => absurd (by decide) z) (fun z => absurd (by decide) z) (fun z => absurd (by decide) z) (fun z => absurd (by decide) z) (fun _ => ⟨rfl, ⟨⟨?_, ?_, fun k hk => ?_, fun k hk => ?_⟩, fun k hk => ?_, fun k hk => ⟨?_, ?_⟩⟩, G.trans (F9.mono (fun b hb => by omega))⟩) (fun z => absurd (by decide) z)
    · rw [F9.i (by omega), e132 _ (by omega)]; exact a1
    · rw [F9.i (by omega), e132 _ (by omega)]; exact a2
    · rw [F9.j (by omega), e133 _ (by omega), show 10 + (10 * 0 + k) = 10 * 1 + k by omega]; exact a3 k hk
    · rw [F9.j (by omega), e134 _ (by omega), show 6 + (6 * 0 + k) = 6 * 1 + k by omega]; exact a4 k hk
    · rw [F9.i (by omega), F9.i (by omega), F9.i (by omega), e135 _ (by omega), e136 _ (by omega), e137 _ (by omega)]; exact b k hk
    · rw [F9.i (by omega), e138 _ (by omega)]; exact (c k hk).1
    · have ck := (c k hk).2
      have ln := rNl_le (dlw D) (show k + 1 ≤ dh D by omega)
      have er : rNl (dlw D) (k + 1) = rNl (dlw D) k + (rrc (dlw D k)).length := rfl
      obtain ⟨n, t, f, p, ef, r0⟩ := (o4 k hk).2.2
      refine ⟨rNl (dlw D) k, rrc (dlw D k), ?_, ?_, by omega, ?_, ?_⟩
      · rw [B1, if_pos (by omega), ck.1, show (1000 : Int32) = nI 1000 from rfl, nI_sb (by omega), Nat.add_sub_cancel_left]
      · rw [B2, if_pos (by omega), ck.2.1, show (1000 : Int32) = nI 1000 from rfl, nI_sb (by omega), Nat.add_sub_cancel_left, er]
      · exact ck.2.2.sh (by omega) (fun j hj => by rw [F9.i (by omega)]; exact e141 j hj)
      · show PR4 0 (rrc (dlw D k)) (rfv (dlw D k))
        rw [ef] at r0 ⊢
        exact (pEx_goodR f 4 0 p prOut (by omega) r0).1 (by omega)
  · have n6 : ¬ (6 : Int32) ≤ nI i := ngl 6 rfl (by decide) hi
    have e6 : (6 : Int32) + nI i = nI (6 + i) := by rw [show (6 : Int32) = nI 6 from rfl, nI_add]
    have f139 : ∀ k, i ≤ k → mi M9 139 k = mi M 139 k := fun k hk => by rw [B1, if_neg (by omega)]
    have f140 : ∀ k, i ≤ k → mi M9 140 k = mi M 140 k := fun k hk => by rw [B2, if_neg (by omega)]
    refine qX12_lays_74 (M1 := wi M9 139 i (mi M 139 (6 + i) - 1000)) (M2 := wi (wi M9 139 i (mi M 139 (6 + i) - 1000)) 140 i (mi M 140 (6 + i) - 1000)) (F9.lay L8) (by rw [e6, nI_clamp (by omega), nI_clamp (by omega), f139 _ (by omega)]) (by rw [e6, nI_clamp (by omega), nI_clamp (by omega), wi_at (b := 140), if_neg (by omega), f140 _ (by omega)]) (fun _ => by rw [e6]; exact vi (by omega) (by decide)) (fun _ => vi (by omega) (by decide)) (fun _ => by rw [e6]; exact vi (by omega) (by decide)) (fun _ => vi (by omega) (by decide)) (fun z => absurd z n6) (fun _ => ?_)
    rw [nI_1]
    refine ih _ ((F9.wi (.inl rfl)).wi (.inr rfl)) (fun k => ?_) (fun k => ?_)
    · rw [wi_at, if_neg (by omega), wi_at]
      by_cases z : k = i
      · rw [if_pos ⟨rfl, z⟩, if_pos (by omega), z]
      · rw [if_neg (fun y => z y.2), B1]
        by_cases z2 : k < i
        · rw [if_pos z2, if_pos (by omega)]
        · rw [if_neg z2, if_neg (by omega)]
    · rw [wi_at]
      by_cases z : k = i
      · rw [if_pos ⟨rfl, z⟩, if_pos (by omega), z]
      · rw [if_neg (fun y => z y.2), wi_at, if_neg (by omega), B2]
        by_cases z2 : k < i
        · rw [if_pos z2, if_pos (by omega)]
        · rw [if_neg z2, if_neg (by omega)]
theorem ctyT_gd (hn : n ≤ 1000) : ((ctyT n t).1 = 1 ∧ FaC n t (ctyT n t).2.1) ∨ ((ctyT n t).1 = 0 ∧ (ctyT n t).2.1 = 0 ∧ DOk (ctyT n t).2.2.2 ∧ eD (ctyT n t).2.2.2 ≤ 1000) := by
  rcases pCo_gd (n := n) (t := t) (n + 1) 0 dEmp (Nat.zero_le _) dEmp_ok (Nat.le_refl _) with h | ⟨h1, h2, h3, h4, h5⟩
  · exact .inl h
  · exact .inr ⟨h1, h2, h4, Nat.le_trans h5 (Nat.le_trans h3 hn)⟩
/-- what a county told leaves in the reference -/
def RCtyQ (la lb pa pb0 rl n : Nat) (t : Nat → Nat) (M : MM) : Option Value → MM → Prop := fun rv M2 => rv = some (.int (ctyT n t).2.1) ∧ Lay M2 la lb pa pb0 rl ∧ mi M2 130 1 = 0 ∧ mi M2 130 0 = 0 ∧ Fr inRf M M2 ∧ (((ctyT n t).1 = 1 ∧ RTm (wi M 130 0 0) M2) ∨ ((ctyT n t).1 = 0 ∧ RTd M2 (ctyT n t).2.2.2 ∧ RSt (mi M2 162) (dn (ctyT n t).2.2.2) (dh (ctyT n t).2.2.2) T0 ∧ mi M2 154 0 = 0 ∧ mi M2 159 0 = 0 ∧ mi M2 130 49 = 0 ∧ ∀ i, i < 4 → mi M2 167 i = 0))
theorem tX12_county (L : Lay M la lb pa pb0 rl) (T : RTp M n t) (hd : 6 ≤ d) : R0 g YX12_county d [.ref 130] M (RCtyQ la lb pa pb0 rl n t M) := by
  have F1 : Fr (inC 130) M (wi M 130 0 0) := Fr.wi (S := inC 130) Fr.rf rfl
  have T1 : RTp (wi M 130 0 0) n t := ⟨T.1, by rw [wi_at, if_neg (by omega)]; exact T.2.1, fun k hk => by rw [F1.i (by omega)]; exact T.2.2 k hk⟩
  refine R0.of (by decide +kernel) (Nat.le_of_ble_eq_true rfl) rfl (qX12_county_0 (M1 := wi M 130 0 0) L rfl (K0.set (d1 := d - 1) (by omega) (tX12_readsAll (F1.lay L) T1 (by omega)) ?_))
  rintro rv M2 ⟨L2, Q, h⟩
  have q0 : mi M2 130 0 = 0 := by rw [Q.2.2.2.2.2.2 0 (by omega) (by omega) (by omega) (by omega) (by omega) (by omega) (by omega) (by omega) (by omega), wi_at, if_pos ⟨rfl, rfl⟩]
  have q1 : mi M2 130 1 = 0 := Q.2.2.2.2.2.1
  have G2 : Fr inRf M M2 := (F1.mono (fun b hb => by omega)).trans (Q.2.2.2.2.1.mono (fun b hb => by omega))
  rcases h with ⟨h1, rfl, h2, h3⟩ | ⟨h1, rfl, h2⟩
  · refine qX12_county_9 L2 (fun _ => ?_) (fun z => absurd z (by decide))
    rcases ctyT_gd (t := t) T.1 with ⟨y, -⟩ | ⟨-, e0, O, -⟩
    · omega
    refine K0.set (d1 := d - 1) (by omega) (tX12_lays L2 h2 O h3 (by omega)) ?_
    rintro rv M3 ⟨rfl, R3, F3⟩
    have L3 := F3.lay L2
    refine qX12_county_21 L3 (K0.set (d1 := d - 1) (by omega) (tX12_fresh L3 (R3.co (cOf_D _)) O.1 (by omega)) ?_)
    rintro rv M4 ⟨rfl, S4, F4⟩
    have L4 := F4.lay L3
    have F5 : Fr (fun b => b = 154 ∨ b = 159 ∨ b = 130) M4 (wi (wi (wi M4 154 0 0) 159 0 0) 130 49 0) := ((Fr.rf.wi (.inl rfl)).wi (.inr (.inl rfl))).wi (.inr (.inr rfl))
    refine qX12_county_25 (M1 := wi M4 154 0 0) (M2 := wi (wi M4 154 0 0) 159 0 0) (M3 := wi (wi (wi M4 154 0 0) 159 0 0) 130 49 0) L4 rfl rfl rfl ?_
    have L5 := F5.lay L4
    have z0 : mi (wi (wi (wi M4 154 0 0) 159 0 0) 130 49 0) 130 0 = 0 := by rw [wi_at, if_neg (by omega), wi_at, if_neg (by omega), wi_at, if_neg (by omega), F4.i (by omega), F3.i (by omega)]; exact q0
    have z1 : mi (wi (wi (wi M4 154 0 0) 159 0 0) 130 49 0) 130 1 = 0 := by rw [wi_at, if_neg (by omega), wi_at, if_neg (by omega), wi_at, if_neg (by omega), F4.i (by omega), F3.i (by omega)]; exact q1
    have z154 : mi (wi (wi (wi M4 154 0 0) 159 0 0) 130 49 0) 154 0 = 0 := by rw [wi_at, if_neg (by omega), wi_at, if_neg (by omega), wi_at, if_pos ⟨rfl, rfl⟩]
    have z159 : mi (wi (wi (wi M4 154 0 0) 159 0 0) 130 49 0) 159 0 = 0 := by rw [wi_at, if_neg (by omega), wi_at, if_pos ⟨rfl, rfl⟩]
    have z49 : mi (wi (wi (wi M4 154 0 0) 159 0 0) 130 49 0) 130 49 = 0 := by rw [wi_at, if_pos ⟨rfl, rfl⟩]
    have b0' : vp_nar .boolean 0 = 0 := by decide
    have key := up0 (p := fun i => ∀ M6, Fr (inC 167) (wi (wi (wi M4 154 0 0) 159 0 0) 130 49 0) M6 → (∀ k, k < i → mi M6 167 k = 0) → E0 g YX12_county d 46 [(0, .ref 130), (1, .int (nI i))] [] M6 (RCtyQ la lb pa pb0 rl n t M)) 4 (fun M6 F6 B => ?_) (fun i hi ih M6 F6 B => ?_)
    · exact key _ Fr.rf (fun k hk => absurd hk (Nat.not_lt_zero _))
    · refine qX12_county_46 (F6.lay L5) rfl (fun z => absurd (by decide) z) (fun _ => ?_) (fun z => absurd (by decide) z)
      have R6 : RTd M6 (ctyT n t).2.2.2 := by
        obtain ⟨⟨a1, a2, a3, a4⟩, b, c⟩ := R3
        have H : Fr (fun b => b = 162 ∨ b = 154 ∨ b = 159 ∨ b = 130 ∨ b = 167) M3 M6 := (F4.mono (fun b hb => by omega)).trans ((F5.mono (fun b hb => by omega)).trans (F6.mono (fun b hb => by omega)))
        refine ⟨⟨by rw [H.i (by omega)]; exact a1, by rw [H.i (by omega)]; exact a2, fun k hk => by rw [H.j (by omega)]; exact a3 k hk, fun k hk => by rw [H.j (by omega)]; exact a4 k hk⟩, fun k hk => by rw [H.i (by omega), H.i (by omega), H.i (by omega)]; exact b k hk, fun k hk => ⟨by rw [H.i (by omega)]; exact (c k hk).1, ?_⟩⟩
        obtain ⟨x, rc, x1, x2, x3, x4, x5⟩ := (c k hk).2
        exact ⟨x, rc, by rw [H.i (by omega)]; exact x1, by rw [H.i (by omega)]; exact x2, x3, x4.to (H.i (by omega)), x5⟩
      have G6 : Fr inRf M M6 := G2.trans ((F3.mono (fun b hb => by omega)).trans ((F4.mono (fun b hb => by omega)).trans ((F5.mono (fun b hb => by omega)).trans (F6.mono (fun b hb => by omega)))))
      refine ⟨by rw [e0], F6.lay L5, by rw [F6.i (by omega)]; exact z1, by rw [F6.i (by omega)]; exact z0, G6, .inr ⟨h1, R6, ?_, by rw [F6.i (by omega)]; exact z154, by rw [F6.i (by omega)]; exact z159, by rw [F6.i (by omega)]; exact z49, B⟩⟩
      rw [F6.i (by omega), F5.i (by omega)]
      exact S4
    · have n4' : ¬ (4 : Int32) ≤ nI i := ngl 4 rfl (by decide) hi
      refine qX12_county_46 (M1 := wi M6 167 i 0) (F6.lay L5) (by rw [nI_clamp (by omega), b0']) (fun _ => vi (by omega) (by decide)) (fun z => absurd z n4') (fun _ => ?_)
      rw [nI_1]
      refine ih _ (F6.wi rfl) (fun k hk => ?_)
      rw [wi_at]
      by_cases z : k = i
      · rw [if_pos ⟨rfl, z⟩]
      · rw [if_neg (fun y => z y.2)]; exact B k (by omega)
  · exact qX12_county_9 L2 (fun z => absurd rfl z) (fun _ => ⟨by rw [h2], L2, q1, q0, G2, .inl ⟨h1, Q⟩⟩)
end LY
