/-! ===== the reference: names, tokens that are wanted ===== -/
theorem kNm_no {K : TK} {i : Nat} (hi : i < 17) (h : kW K i = true) : kNm K = false := by
  cases z : kNm K
  · rfl
  · unfold kNm at z
    rw [Bool.and_eq_true, noKw_all] at z
    rw [z.2 i hi] at h
    exact absurd h (by decide)
def TI (la lb pa pb0 rl n : Nat) (t : Nat → Nat) (M : MM) (p : Nat) : Prop := Lay M la lb pa pb0 rl ∧ RRd M n t ∧ TkR M (lexT n t p) ∧ p ≤ n
/-- names as told (o is 0) or of the draft (o is 1) -/
def RNm (M : MM) (o : Nat) (D : DTs) : Prop := mi M 132 (2 * o) = nI (dn D) ∧ mi M 132 (2 * o + 1) = nI (dh D) ∧ (∀ k, k < dn D → mj M 133 (10 * o + k) = lJ (hRx 27 (dsn D k))) ∧ ∀ k, k < dh D → mj M 134 (6 * o + k) = lJ (hRx 27 (dhn D k))
def TnF (M M1 : MM) : Prop := Fr (inC 130) M M1 ∧ (∀ x, x ≠ 4 → x ≠ 5 → x ≠ 6 → x ≠ 8 → x ≠ 9 → x ≠ 33 → mi M1 130 x = mi M 130 x) ∧ ∀ x, x ≠ 7 → x ≠ 34 → mj M1 130 x = mj M 130 x
theorem TnF.rf {M : MM} : TnF M M := ⟨Fr.rf, fun _ _ _ _ _ _ _ => rfl, fun _ _ _ => rfl⟩
theorem TnF.trans {M M1 M2 : MM} (h : TnF M M1) (h2 : TnF M1 M2) : TnF M M2 := ⟨h.1.trans h2.1, fun x a b c d e f => (h2.2.1 x a b c d e f).trans (h.2.1 x a b c d e f), fun x a b => (h2.2.2 x a b).trans (h.2.2 x a b)⟩
theorem TnF.w {M M1 : MM} (h : TnF M M1) {k : Nat} {v : Int32} (hk : k = 9 ∨ k = 33) : TnF M (wi M1 130 k v) := ⟨h.1.wi rfl, fun x a b c d e f => by rw [wi_at, if_neg (by omega)]; exact h.2.1 x a b c d e f, h.2.2⟩
theorem TnF.wl {M M1 : MM} (h : TnF M M1) {v : Int64} : TnF M (wj M1 130 34 v) := ⟨h.1.wj rfl, h.2.1, fun x a b => by rw [wj_at, if_neg (fun z => b z.2)]; exact h.2.2 x a b⟩
theorem TkF.tn {M M1 : MM} (h : TkF M M1) : TnF M M1 := ⟨h.1, fun x a b c d _ _ => h.2.1 x a b c d, fun x a _ => h.2.2 x a⟩
theorem nmL_ge {nm : Nat → List Nat} {l : List Nat} {j : Nat} (h : j < 1000) : 0 ≤ nmL nm l j 0 ↔ ¬ nmL nm l j 0 = -1 := by
  rcases nmL_of nm l j 0 with e | ⟨k, -, k2, -, e⟩
  · rw [e]; decide
  · rw [e]
    have h1 : (0 : Int32) ≤ nI k ↔ 0 ≤ k := by rw [show (0 : Int32) = nI 0 from rfl]; exact nI_leI (by decide) (by omega)
    exact ⟨fun _ => nI_m1 (by omega), fun _ => h1.mpr (Nat.zero_le _)⟩
section TN
variable {g : GG} {d : Nat} {M M1 M2 : MM} {la lb pa pb0 rl n p o : Nat} {t : Nat → Nat} {D : DTs}
theorem RNm.to (h : RNm M o D) (F : Fr (inC 130) M M1) : RNm M1 o D := by
  unfold RNm
  rw [F.i (show ¬ inC 130 132 by omega), F.j (show ¬ inC 130 133 by omega), F.j (show ¬ inC 130 134 by omega)]
  exact h
theorem TI.to (h : TI la lb pa pb0 rl n t M p) (L : Lay M1 la lb pa pb0 rl) (h1 : ∀ x, x = 3 ∨ x = 4 ∨ x = 5 ∨ x = 6 ∨ x = 8 → mi M1 130 x = mi M 130 x) (h2 : mj M1 130 7 = mj M 130 7) (h3 : mi M1 131 = mi M 131) : TI la lb pa pb0 rl n t M1 p := by
  obtain ⟨-, R, H, hp⟩ := h
  exact ⟨L, ⟨R.1, by rw [h1 3 (by omega)]; exact R.2.1, fun k hk => by rw [h3]; exact R.2.2 k hk⟩, ⟨by rw [h1 5 (by omega)]; exact H.1, by rw [h1 4 (by omega)]; exact H.2.1, by rw [h1 6 (by omega)]; exact H.2.2.1, fun z => by rw [h2]; exact H.2.2.2.1 z, fun z => by rw [h1 8 (by omega)]; exact H.2.2.2.2 z⟩, hp⟩
theorem TI.w (h : TI la lb pa pb0 rl n t M p) {k : Nat} {v : Int32} (hk : k = 9 ∨ k = 33) : TI la lb pa pb0 rl n t (wi M 130 k v) p :=
  h.to ((Fr.rf.wi (S := inC 130) rfl).lay h.1) (fun x hx => by rw [wi_at, if_neg (by omega)]) rfl (by funext j; rw [wi_at, if_neg (by omega)])
theorem TI.wl (h : TI la lb pa pb0 rl n t M p) {v : Int64} : TI la lb pa pb0 rl n t (wj M 130 34 v) p :=
  h.to ((Fr.rf.wj (S := inC 130) rfl).lay h.1) (fun x hx => rfl) (by rw [wj_at, if_neg (by omega)]) rfl
variable {Y Z : YY} {pc : Nat} {lv : List (Nat × Value)} {st av : List Value} {P : Option Value → MM → Prop}
theorem K0.tn (I : TI la lb pa pb0 rl n t M p) (hd : 2 ≤ d) (k : ∀ M2, TI la lb pa pb0 rl n t M2 (nxT n t p) → TkF M M2 → E0 g Y d pc lv st M2 P) : K0 g Y YX12_nextToken d pc [.ref 130] lv st M P := by
  obtain ⟨L, R, H, hp⟩ := I
  have nx := nxT_le (t := t) hp
  refine K0.set (d1 := d - 1) (by omega) (tX12_nextToken L R H.2.1 nx.2.1 (by omega)) ?_
  rintro rv M2 ⟨rfl, H2, F2⟩
  exact k M2 ⟨F2.1.lay L, F2.rd R, H2, nx.2.1⟩ F2
theorem K0.ff {k : Nat} (I : TI la lb pa pb0 rl n t M p) (hd : 1 ≤ d) (kk : ∀ M2, mi M2 130 9 = fltC n t k p → TnF M M2 → E0 g Y d pc lv (.int 0 :: st) M2 P) : K0 g Y YX12_fails d pc [.ref 130, .int (nI k)] lv st M P := by
  refine ⟨d - 1, (fun rv M2 => rv = some (.int 0) ∧ M2 = wi M 130 9 (fltC n t k p)), by omega, ?_, ?_⟩
  · refine R0.of (by decide +kernel) (Nat.le_of_ble_eq_true rfl) rfl (qX12_fails_0 I.1 rfl ⟨rfl, ?_⟩)
    rw [I.2.2.1.1]
    unfold fltC
    rw [show (16 : Int32) = nI 16 from rfl, pk_mul, nI_add]
  · rintro rv M2 ⟨rfl, rfl⟩
    exact kk _ (by rw [wi_at, if_pos ⟨rfl, rfl⟩]) (TnF.rf.w (.inl rfl))
def TnR (la lb pa pb0 rl n : Nat) (t : Nat → Nat) (p p2 fk : Nat) (M : MM) (Q : MM → Prop) : Option Value → MM → Prop := fun rv M2 => (fk = 0 ∧ rv = some (.int 1) ∧ TI la lb pa pb0 rl n t M2 p2 ∧ TnF M M2 ∧ Q M2) ∨ (fk ≠ 0 ∧ rv = some (.int 0) ∧ mi M2 130 9 = fltC n t fk p ∧ TnF M M2)
theorem K0.tq {p2 fk : Nat} {Q : MM → Prop} (hd : 1 ≤ d) (hc : R0 g Z (d - 1) av M (TnR la lb pa pb0 rl n t p p2 fk M Q)) (k0 : fk = 0 → ∀ M2, TI la lb pa pb0 rl n t M2 p2 → TnF M M2 → Q M2 → E0 g Y d pc lv (.int 1 :: st) M2 P) (k1 : fk ≠ 0 → ∀ M2, mi M2 130 9 = fltC n t fk p → TnF M M2 → E0 g Y d pc lv (.int 0 :: st) M2 P) : K0 g Y Z d pc av lv st M P := by
  refine K0.set (d1 := d - 1) (by omega) hc ?_
  rintro rv M2 (⟨q1, rfl, q2, q3, q4⟩ | ⟨q1, rfl, q2, q3⟩)
  · exact k0 q1 M2 q2 q3 q4
  · exact k1 q1 M2 q2 q3
theorem K0.sgT {x : Nat} (I : TI la lb pa pb0 rl n t M p) (hx : x < 127) (hd : 1 ≤ d) (k : E0 g Y d pc lv (.int (b2i (kIs (lexT n t p) x)) :: st) M P) : K0 g Y YX12_isSign d pc [.ref 130, .int (nI x)] lv st M P := K0.ans (d1 := d - 1) (by omega) (tX12_isSign I.1 I.2.1 I.2.2.1 hx) k
theorem K0.wdT {i : Nat} {j : Int64} (I : TI la lb pa pb0 rl n t M p) (hi : i < 21) (hj : j = lJ (hRx 27 (kwL i))) (hd : 1 ≤ d) (k : E0 g Y d pc lv (.int (b2i (kW (lexT n t p) i)) :: st) M P) : K0 g Y YX12_isWord d pc [.ref 130, .long j] lv st M P := K0.ans (d1 := d - 1) (by omega) (tX12_isWord I.1 I.2.2.1 hi hj) k
theorem tX12_isKept (I : TI la lb pa pb0 rl n t M p) : R0 g YX12_isKept d [.ref 130] M (Ans (b2i (!kNm (lexT n t p))) M) := by
  have H := I.2.2.1
  have e1 := H.ty lexT_ty 1 1 rfl (by omega)
  have yes : kNm (lexT n t p) = false → E0 g YX12_isKept d 197 [] [] M (Ans (b2i (!kNm (lexT n t p))) M) := fun z => by
    rw [z]
    exact qX12_isKept_197 (qX12_isKept_202 (by decide) ⟨rfl, rfl⟩)
  have w0 := fun r => H.wd (i := 0) (j := 380234) (by omega) (by decide +kernel) (e1.mp r)
  have w1 := fun r => H.wd (i := 1) (j := 385418) (by omega) (by decide +kernel) (e1.mp r)
  have w2 := fun r => H.wd (i := 2) (j := 247516) (by omega) (by decide +kernel) (e1.mp r)
  have w3 := fun r => H.wd (i := 3) (j := 7542361) (by omega) (by decide +kernel) (e1.mp r)
  have w4 := fun r => H.wd (i := 4) (j := 158529) (by omega) (by decide +kernel) (e1.mp r)
  have w5 := fun r => H.wd (i := 5) (j := 4285945) (by omega) (by decide +kernel) (e1.mp r)
  have w6 := fun r => H.wd (i := 6) (j := 380237) (by omega) (by decide +kernel) (e1.mp r)
  have w7 := fun r => H.wd (i := 7) (j := 144941) (by omega) (by decide +kernel) (e1.mp r)
  have w8 := fun r => H.wd (i := 8) (j := 10983956) (by omega) (by decide +kernel) (e1.mp r)
  have w9 := fun r => H.wd (i := 9) (j := 409469) (by omega) (by decide +kernel) (e1.mp r)
  have w10 := fun r => H.wd (i := 10) (j := 8740238) (by omega) (by decide +kernel) (e1.mp r)
  have w11 := fun r => H.wd (i := 11) (j := 220307) (by omega) (by decide +kernel) (e1.mp r)
  have w12 := fun r => H.wd (i := 12) (j := 47329743) (by omega) (by decide +kernel) (e1.mp r)
  have w13 := fun r => H.wd (i := 13) (j := 7096239) (by omega) (by decide +kernel) (e1.mp r)
  have w14 := fun r => H.wd (i := 14) (j := 10631) (by omega) (by decide +kernel) (e1.mp r)
  have w15 := fun r => H.wd (i := 15) (j := 1111) (by omega) (by decide +kernel) (e1.mp r)
  have w16 := fun r => H.wd (i := 16) (j := 423) (by omega) (by decide +kernel) (e1.mp r)
  refine R0.of (by decide +kernel) (Nat.le_of_ble_eq_true rfl) rfl (qX12_isKept_0 I.1 (fun r a => yes (kNm_no (i := 0) (by omega) ((w0 r).mp a))) (fun r _ a => yes (kNm_no (i := 1) (by omega) ((w1 r).mp a))) (fun r _ _ a => yes (kNm_no (i := 2) (by omega) ((w2 r).mp a))) (fun r _ _ _ a => yes (kNm_no (i := 3) (by omega) ((w3 r).mp a))) (fun r _ _ _ _ a => yes (kNm_no (i := 4) (by omega) ((w4 r).mp a))) (fun r _ _ _ _ _ a => yes (kNm_no (i := 5) (by omega) ((w5 r).mp a))) (fun r _ _ _ _ _ _ a => yes (kNm_no (i := 6) (by omega) ((w6 r).mp a))) (fun r _ _ _ _ _ _ _ a => yes (kNm_no (i := 7) (by omega) ((w7 r).mp a))) (fun r _ _ _ _ _ _ _ _ a => yes (kNm_no (i := 8) (by omega) ((w8 r).mp a))) (fun r _ _ _ _ _ _ _ _ _ a => yes (kNm_no (i := 9) (by omega) ((w9 r).mp a))) (fun r _ _ _ _ _ _ _ _ _ _ a => yes (kNm_no (i := 10) (by omega) ((w10 r).mp a))) (fun r _ _ _ _ _ _ _ _ _ _ _ a => yes (kNm_no (i := 11) (by omega) ((w11 r).mp a))) (fun r _ _ _ _ _ _ _ _ _ _ _ _ a => yes (kNm_no (i := 12) (by omega) ((w12 r).mp a))) (fun r _ _ _ _ _ _ _ _ _ _ _ _ _ a => yes (kNm_no (i := 13) (by omega) ((w13 r).mp a))) (fun r _ _ _ _ _ _ _ _ _ _ _ _ _ _ a => yes (kNm_no (i := 14) (by omega) ((w14 r).mp a))) (fun r _ _ _ _ _ _ _ _ _ _ _ _ _ _ _ a => yes (kNm_no (i := 15) (by omega) ((w15 r).mp a))) (fun r a0 a1 a2 a3 a4 a5 a6 a7 a8 a9 a10 a11 a12 a13 a14 a15 a16 => ?_) (fun r _ _ _ _ _ _ _ _ _ _ _ _ _ _ _ _ a => yes (kNm_no (i := 16) (by omega) ((w16 r).mp a))) (fun r => ?_))
  · have : kNm (lexT n t p) = true := by
      unfold kNm
      rw [Bool.and_eq_true, decide_eq_true_eq, noKw_all]
      refine ⟨e1.mp r, fun i hi => ?_⟩
      cases z : kW (lexT n t p) i
      · rfl
      · exfalso
        match i, hi with
        | 0, _ => exact a0 ((w0 r).mpr z)
        | 1, _ => exact a1 ((w1 r).mpr z)
        | 2, _ => exact a2 ((w2 r).mpr z)
        | 3, _ => exact a3 ((w3 r).mpr z)
        | 4, _ => exact a4 ((w4 r).mpr z)
        | 5, _ => exact a5 ((w5 r).mpr z)
        | 6, _ => exact a6 ((w6 r).mpr z)
        | 7, _ => exact a7 ((w7 r).mpr z)
        | 8, _ => exact a8 ((w8 r).mpr z)
        | 9, _ => exact a9 ((w9 r).mpr z)
        | 10, _ => exact a10 ((w10 r).mpr z)
        | 11, _ => exact a11 ((w11 r).mpr z)
        | 12, _ => exact a12 ((w12 r).mpr z)
        | 13, _ => exact a13 ((w13 r).mpr z)
        | 14, _ => exact a14 ((w14 r).mpr z)
        | 15, _ => exact a15 ((w15 r).mpr z)
        | 16, _ => exact a16 ((w16 r).mpr z)
        | i + 17, h => omega
    rw [this]
    exact qX12_isKept_202 (by decide) ⟨rfl, rfl⟩
  · have : kNm (lexT n t p) = false := by
      unfold kNm
      rw [decide_eq_false (fun z => r (e1.mpr z))]; rfl
    rw [this]; exact ⟨rfl, rfl⟩
theorem tX12_shotNamed (I : TI la lb pa pb0 rl n t M p) (N : RNm M o D) (O : DOk D) (ho : o ≤ 1) (h1 : kty (lexT n t p) = 1) : R0 g YX12_shotNamed d [.ref 130, .int (nI o)] M (Ans (sIx n t D p) M) := by
  have hw : WOk (kws (lexT n t p)) := lexA_w h1
  have d10 := O.1
  have eo : (10 : Int32) * nI o = nI (10 * o) := by rw [show (10 : Int32) = nI 10 from rfl, pk_mul]
  have e2 : (2 * nI o + 0 : Int32) = nI (2 * o) := by rw [show (2 : Int32) = nI 2 from rfl, pk_mul, Int32.add_zero]
  have key : ∀ j k, k + j = dn D → E0 g YX12_shotNamed d 5 [(0, .ref 130), (1, .int (nI o)), (2, .int (nI (10 * o + k)))] [] M (Ans (nmL (dsn D) (kws (lexT n t p)) j k) M) := by
    intro j
    induction j with
    | zero =>
      intro k hk
      have le : (10 * nI o + mi M 132 (2 * nI o + 0 : Int32).toNatClampNeg) ≤ nI (10 * o + k) := by
        rw [eo, e2, nI_clamp (by omega), N.1, nI_add, nI_leI (by omega) (by omega)]; omega
      exact qX12_shotNamed_5 I.1 (by rw [e2]; exact vi (by omega) (by decide)) (fun z => absurd le z) (fun _ => ⟨rfl, rfl⟩) (fun z => absurd le z) (fun z => absurd le z)
    | succ j ih =>
      intro k hk
      have nle : ¬ (10 * nI o + mi M 132 (2 * nI o + 0 : Int32).toNatClampNeg) ≤ nI (10 * o + k) := by
        rw [eo, e2, nI_clamp (by omega), N.1, nI_add, nI_leI (by omega) (by omega)]; omega
      have ew : lg_cmp (mj M 133 (nI (10 * o + k)).toNatClampNeg) (mj M 130 7) = 0 ↔ dsn D k = kws (lexT n t p) := by
        rw [lg_eq, nI_clamp (by omega), N.2.2.1 k (by omega), I.2.2.1.2.2.2.1 h1]
        exact word_eq (O.2.2.1 k (by omega)).1 hw (by decide) (by decide)
      refine qX12_shotNamed_5 I.1 (by rw [e2]; exact vi (by omega) (by decide)) (fun _ => vi (by omega) (by decide)) (fun z => absurd z nle) (fun _ z => ?_) (fun _ z => ?_)
      · rw [ew] at z
        rw [nmL, if_neg z, nI_1]
        exact ih (k + 1) (by omega)
      · rw [ew] at z
        rw [nmL, if_pos z, eo, nI_sb (by omega), show 10 * o + k - 10 * o = k by omega]
        exact ⟨rfl, rfl⟩
  refine R0.of (by decide +kernel) (Nat.le_of_ble_eq_true rfl) rfl (qX12_shotNamed_0 ?_)
  rw [eo]
  exact key (dn D) 0 (by omega)
theorem tX12_hallNamed (I : TI la lb pa pb0 rl n t M p) (N : RNm M o D) (O : DOk D) (ho : o ≤ 1) (h1 : kty (lexT n t p) = 1) : R0 g YX12_hallNamed d [.ref 130, .int (nI o)] M (Ans (hIx n t D p) M) := by
  have hw : WOk (kws (lexT n t p)) := lexA_w h1
  have d10 := O.2.1
  have eo : (6 : Int32) * nI o = nI (6 * o) := by rw [show (6 : Int32) = nI 6 from rfl, pk_mul]
  have e2 : (2 * nI o + 1 : Int32) = nI (2 * o + 1) := by rw [show (2 : Int32) = nI 2 from rfl, pk_mul, nI_1]
  have key : ∀ j k, k + j = dh D → E0 g YX12_hallNamed d 5 [(0, .ref 130), (1, .int (nI o)), (2, .int (nI (6 * o + k)))] [] M (Ans (nmL (dhn D) (kws (lexT n t p)) j k) M) := by
    intro j
    induction j with
    | zero =>
      intro k hk
      have le : (6 * nI o + mi M 132 (2 * nI o + 1 : Int32).toNatClampNeg) ≤ nI (6 * o + k) := by
        rw [eo, e2, nI_clamp (by omega), N.2.1, nI_add, nI_leI (by omega) (by omega)]; omega
      exact qX12_hallNamed_5 I.1 (by rw [e2]; exact vi (by omega) (by decide)) (fun z => absurd le z) (fun _ => ⟨rfl, rfl⟩) (fun z => absurd le z) (fun z => absurd le z)
    | succ j ih =>
      intro k hk
      have nle : ¬ (6 * nI o + mi M 132 (2 * nI o + 1 : Int32).toNatClampNeg) ≤ nI (6 * o + k) := by
        rw [eo, e2, nI_clamp (by omega), N.2.1, nI_add, nI_leI (by omega) (by omega)]; omega
      have ew : lg_cmp (mj M 134 (nI (6 * o + k)).toNatClampNeg) (mj M 130 7) = 0 ↔ dhn D k = kws (lexT n t p) := by
        rw [lg_eq, nI_clamp (by omega), N.2.2.2 k (by omega), I.2.2.1.2.2.2.1 h1]
        exact word_eq (O.2.2.2 k (by omega)).1 hw (by decide) (by decide)
      refine qX12_hallNamed_5 I.1 (by rw [e2]; exact vi (by omega) (by decide)) (fun _ => vi (by omega) (by decide)) (fun z => absurd z nle) (fun _ z => ?_) (fun _ z => ?_)
      · rw [ew] at z
        rw [nmL, if_neg z, nI_1]
        exact ih (k + 1) (by omega)
      · rw [ew] at z
        rw [nmL, if_pos z, eo, nI_sb (by omega), show 6 * o + k - 6 * o = k by omega]
        exact ⟨rfl, rfl⟩
  refine R0.of (by decide +kernel) (Nat.le_of_ble_eq_true rfl) rfl (qX12_hallNamed_0 ?_)
  rw [eo]
  exact key (dh D) 0 (by omega)
theorem kNm_b {K : TK} : b2i (!kNm K) = 0 ↔ kNm K = true := by cases kNm K <;> decide
theorem tX12_needsWord {i : Nat} {j : Int64} (I : TI la lb pa pb0 rl n t M p) (hi : i < 21) (hj : j = lJ (hRx 27 (kwL i))) (hd : 2 ≤ d) : R0 g YX12_needsWord d [.ref 130, .long j] M (TnR la lb pa pb0 rl n t p (nxT n t p) (kwF (lexT n t p) i) M (fun M2 => mj M2 130 34 = mj M 130 34)) := by
  unfold kwF
  refine R0.of (by decide +kernel) (Nat.le_of_ble_eq_true rfl) rfl (qX12_needsWord_0 I.1 (K0.wdT I hi hj (by omega) (qX12_needsWord_5 I.1 (fun r => ?_) (fun r => ?_))))
  · rw [if_pos (b2i_n.mp r)]
    exact K0.tn I hd (fun M2 I2 F2 => qX12_needsWord_18 (.inl ⟨rfl, rfl, I2, F2.tn, F2.2.2 34 (by omega)⟩))
  · rw [if_neg (by rw [b2i_z.mp r]; decide)]
    exact K0.ff (k := 1) I (by omega) (fun M2 e F => qX12_needsWord_13 (by decide) (.inr ⟨by decide, rfl, e, F⟩))
theorem tX12_closes (I : TI la lb pa pb0 rl n t M p) (hd : 2 ≤ d) : R0 g YX12_closes d [.ref 130] M (TnR la lb pa pb0 rl n t p (nxT n t p) (smF (lexT n t p)) M (fun _ => True)) := by
  unfold smF
  refine R0.of (by decide +kernel) (Nat.le_of_ble_eq_true rfl) rfl (qX12_closes_0 I.1 (K0.sgT (x := 59) I (by omega) (by omega) (qX12_closes_6 I.1 (fun r => ?_) (fun r => ?_))))
  · rw [if_pos (b2i_n.mp r)]
    exact K0.tn I hd (fun M2 I2 F2 => qX12_closes_19 (.inl ⟨rfl, rfl, I2, F2.tn, trivial⟩))
  · rw [if_neg (by rw [b2i_z.mp r]; decide)]
    exact K0.ff (k := 1) I (by omega) (fun M2 e F => qX12_closes_14 (by decide) (.inr ⟨by decide, rfl, e, F⟩))
theorem tX12_needsNew (I : TI la lb pa pb0 rl n t M p) (N : RNm M 1 D) (O : DOk D) (hd : 2 ≤ d) : R0 g YX12_needsNew d [.ref 130] M (TnR la lb pa pb0 rl n t p (nxT n t p) (newF D (lexT n t p)) M (fun M2 => mj M2 130 34 = lJ (hRx 27 (kws (lexT n t p))))) := by
  have g1 := nmL_ge (nm := dsn D) (l := kws (lexT n t p)) (j := dn D) (by have := O.1; omega)
  have g2 := nmL_ge (nm := dhn D) (l := kws (lexT n t p)) (j := dh D) (by have := O.2.1; omega)
  unfold newF
  refine R0.of (by decide +kernel) (Nat.le_of_ble_eq_true rfl) rfl (qX12_needsNew_0 I.1 (K0.ans (d1 := d - 1) (by omega) (tX12_isKept I) (qX12_needsNew_4 I.1 (fun r => ?_) (fun r => ?_))))
  · rw [kNm_b] at r
    rw [if_pos r]
    have h1 := (kNm_w r).1
    refine K0.ans (d1 := d - 1) (by omega) (tX12_shotNamed (o := 1) I N O (by omega) h1) (qX12_needsNew_18 I.1 (fun r1 => ?_) (fun r1 => ?_))
    · rw [if_neg (fun z => g1.mp r1 z.1)]
      exact K0.ff (k := 3) I (by omega) (fun M2 e F => qX12_needsNew_34 (by decide) (.inr ⟨by decide, rfl, e, F⟩))
    · have r1 : nmL (dsn D) (kws (lexT n t p)) (dn D) 0 = -1 := by
        by_cases z : nmL (dsn D) (kws (lexT n t p)) (dn D) 0 = -1
        · exact z
        · exact absurd (g1.mpr z) r1
      refine K0.ans (d1 := d - 1) (by omega) (tX12_hallNamed (o := 1) I N O (by omega) h1) (qX12_needsNew_26 (M1 := wj M 130 34 (mj M 130 7)) I.1 rfl (fun r2 => ?_) (fun r2 => ?_))
      · have r2 : nmL (dhn D) (kws (lexT n t p)) (dh D) 0 = -1 := by
          by_cases z : nmL (dhn D) (kws (lexT n t p)) (dh D) 0 = -1
          · exact z
          · exact absurd r2 (Int32.not_lt.mpr (g2.mpr z))
        rw [if_pos ⟨r1, r2⟩]
        refine K0.tn I.wl hd (fun M2 I2 F2 => qX12_needsNew_47 (.inl ⟨rfl, rfl, I2, TnF.rf.wl.trans F2.tn, ?_⟩))
        show mj M2 130 34 = _
        rw [F2.2.2 34 (by omega), wj_at, if_pos ⟨rfl, rfl⟩]
        exact I.2.2.1.2.2.2.1 h1
      · rw [if_neg (fun z => r2 (by rw [show hIx n t D p = -1 from z.2]; decide))]
        exact K0.ff (k := 3) I (by omega) (fun M2 e F => qX12_needsNew_34 (by decide) (.inr ⟨by decide, rfl, e, F⟩))
  · have r : ¬ kNm (lexT n t p) = true := fun z => r (kNm_b.mpr z)
    rw [if_neg r]
    exact K0.ff (k := 1) I (by omega) (fun M2 e F => qX12_needsNew_12 (by decide) (.inr ⟨by decide, rfl, e, F⟩))
theorem tX12_needsShot (I : TI la lb pa pb0 rl n t M p) (N : RNm M o D) (O : DOk D) (ho : o ≤ 1) (hd : 1 ≤ d) : R0 g YX12_needsShot d [.ref 130, .int (nI o)] M (TnR la lb pa pb0 rl n t p p (toF (lexT n t p) (sIx n t D p)) M (fun M2 => mi M2 130 33 = sIx n t D p)) := by
  have g1 := nmL_ge (nm := dsn D) (l := kws (lexT n t p)) (j := dn D) (by have := O.1; omega)
  unfold toF
  refine R0.of (by decide +kernel) (Nat.le_of_ble_eq_true rfl) rfl (qX12_needsShot_0 I.1 (K0.ans (d1 := d - 1) (by omega) (tX12_isKept I) (qX12_needsShot_4 I.1 (fun r => ?_) (fun r => ?_))))
  · rw [kNm_b] at r
    rw [if_pos r]
    have h1 := (kNm_w r).1
    have e33 : mi (wi M 130 33 (sIx n t D p)) 130 33 = sIx n t D p := by rw [wi_at, if_pos ⟨rfl, rfl⟩]
    refine K0.ans (d1 := d - 1) (by omega) (tX12_shotNamed I N O ho h1) (qX12_needsShot_19 (M1 := wi M 130 33 (sIx n t D p)) I.1 rfl (I.1.s (a := 130) rfl (by decide)) (fun r1 => ?_) (fun r1 => ?_)) <;> rw [e33, g1] at r1
    · rw [if_neg r1]
      exact .inl ⟨rfl, rfl, I.w (.inr rfl), TnF.rf.w (.inr rfl), e33⟩
    · have r1 : sIx n t D p = -1 := by
        by_cases z : sIx n t D p = -1
        · exact z
        · exact absurd z r1
      rw [if_pos r1]
      exact K0.ff (k := 2) (I.w (.inr rfl)) (by omega) (fun M2 e F => qX12_needsShot_34 (fun _ => .inr ⟨by decide, rfl, e, (TnF.rf.w (.inr rfl)).trans F⟩) (fun z => absurd rfl z))
  · have r : ¬ kNm (lexT n t p) = true := fun z => r (kNm_b.mpr z)
    rw [if_neg r]
    exact K0.ff (k := 1) I (by omega) (fun M2 e F => qX12_needsShot_12 (by decide) (.inr ⟨by decide, rfl, e, F⟩))
theorem tX12_needsHall (I : TI la lb pa pb0 rl n t M p) (N : RNm M 0 D) (O : DOk D) (hd : 1 ≤ d) : R0 g YX12_needsHall d [.ref 130] M (TnR la lb pa pb0 rl n t p p (toF (lexT n t p) (hIx n t D p)) M (fun M2 => mi M2 130 33 = hIx n t D p)) := by
  have g1 := nmL_ge (nm := dhn D) (l := kws (lexT n t p)) (j := dh D) (by have := O.2.1; omega)
  unfold toF
  refine R0.of (by decide +kernel) (Nat.le_of_ble_eq_true rfl) rfl (qX12_needsHall_0 I.1 (K0.ans (d1 := d - 1) (by omega) (tX12_isKept I) (qX12_needsHall_4 I.1 (fun r => ?_) (fun r => ?_))))
  · rw [kNm_b] at r
    rw [if_pos r]
    have h1 := (kNm_w r).1
    have e33 : mi (wi M 130 33 (hIx n t D p)) 130 33 = hIx n t D p := by rw [wi_at, if_pos ⟨rfl, rfl⟩]
    refine K0.ans (d1 := d - 1) (by omega) (tX12_hallNamed (o := 0) I N O (by omega) h1) (qX12_needsHall_19 (M1 := wi M 130 33 (hIx n t D p)) I.1 rfl (I.1.s (a := 130) rfl (by decide)) (fun r1 => ?_) (fun r1 => ?_)) <;> rw [e33, g1] at r1
    · rw [if_neg r1]
      exact .inl ⟨rfl, rfl, I.w (.inr rfl), TnF.rf.w (.inr rfl), e33⟩
    · have r1 : hIx n t D p = -1 := by
        by_cases z : hIx n t D p = -1
        · exact z
        · exact absurd z r1
      rw [if_pos r1]
      exact K0.ff (k := 2) (I.w (.inr rfl)) (by omega) (fun M2 e F => qX12_needsHall_34 (fun _ => .inr ⟨by decide, rfl, e, (TnF.rf.w (.inr rfl)).trans F⟩) (fun z => absurd rfl z))
  · have r : ¬ kNm (lexT n t p) = true := fun z => r (kNm_b.mpr z)
    rw [if_neg r]
    exact K0.ff (k := 1) I (by omega) (fun M2 e F => qX12_needsHall_12 (by decide) (.inr ⟨by decide, rfl, e, F⟩))
theorem tX12_needsNumber {lo hi : Nat} (I : TI la lb pa pb0 rl n t M p) (hlo : lo < 100) (hhi : hi < 100) (hd : 2 ≤ d) : R0 g YX12_needsNumber d [.ref 130, .int (nI lo), .int (nI hi)] M (TnR la lb pa pb0 rl n t p (nxT n t p) (nuF (lexT n t p) lo hi) M (fun M2 => mi M2 130 33 = nI (knu (lexT n t p)) ∧ mj M2 130 34 = mj M 130 34)) := by
  have e2 := I.2.2.1.ty lexT_ty 2 2 rfl (by omega)
  unfold nuF
  refine R0.of (by decide +kernel) (Nat.le_of_ble_eq_true rfl) rfl (qX12_needsNumber_0 I.1 (fun r => ?_) (fun r => ?_)) <;> rw [e2] at r
  · rw [if_pos r]
    have e8 := I.2.2.1.2.2.2.2 r
    have hk := lexT_nu r
    have ew : wIn (mi M 130 8) (nI lo) (nI hi) = true ↔ lo ≤ knu (lexT n t p) ∧ knu (lexT n t p) ≤ hi := by
      rw [e8]
      unfold wIn
      rw [Bool.and_eq_true, decide_eq_true_eq, decide_eq_true_eq, nI_ltI (by omega) (by omega), nI_ltI (by omega) (by omega)]
      omega
    refine K0.ans (d1 := d - 1) (by omega) tX12_within (qX12_needsNumber_23 (M1 := wi M 130 33 (mi M 130 8)) I.1 rfl (fun r1 => ?_) (fun r1 => ?_))
    · rw [if_pos (ew.mp (b2i_n.mp r1))]
      refine K0.tn (I.w (.inr rfl)) hd (fun M2 I2 F2 => qX12_needsNumber_44 (.inl ⟨rfl, rfl, I2, (TnF.rf.w (.inr rfl)).trans F2.tn, ?_, F2.2.2 34 (by omega)⟩))
      rw [F2.2.1 33 (by omega) (by omega) (by omega) (by omega), wi_at, if_pos ⟨rfl, rfl⟩, e8]
    · rw [if_neg (fun z => by rw [b2i_z, ew.mpr z] at r1; exact absurd r1 (by decide))]
      exact K0.ff (k := 4) I (by omega) (fun M2 e F => qX12_needsNumber_31 (by decide) (.inr ⟨by decide, rfl, e, F⟩))
  · rw [if_neg r]
    exact K0.ff (k := 1) I (by omega) (fun M2 e F => qX12_needsNumber_13 (by decide) (.inr ⟨by decide, rfl, e, F⟩))
end TN
