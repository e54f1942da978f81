/-! ===== draws, tours, rounds judged ===== -/
def lJ (n : Nat) : Int64 := Int64.ofNat n
theorem lJ_toInt {n : Nat} (h : n < 2 ^ 63) : (lJ n).toInt = n := lg_ofNat_toInt h
theorem lJ_of {n : Nat} (h : n < 2 ^ 31) : (nI n).toInt64 = lJ n := Int64.toInt_inj.mp (by rw [Int32.toInt_toInt64, nI_toInt h, lJ_toInt (by omega)])
def dNx (G : Nat) : Nat := (G * 1103515245 + 12345) % 2147483648
def dBl (G b : Nat) : Nat := G / 65536 % b
theorem dNx_lt (G : Nat) : dNx G < 2 ^ 31 := Nat.mod_lt _ (by decide)
theorem dBl_lt {G b : Nat} (h : 1 ≤ b) : dBl G b < b := Nat.mod_lt _ (by omega)
theorem dNx_eq {G : Nat} (h : G < 2 ^ 31) : (lJ G * 1103515245 + 12345) - (lJ G * 1103515245 + 12345) / 2147483648 * 2147483648 = lJ (dNx G) := by
  have c1 : (1103515245 : Int64).toInt = 1103515245 := by decide +kernel
  have c2 : (12345 : Int64).toInt = 12345 := by decide +kernel
  have c3 : (2147483648 : Int64).toInt = 2147483648 := by decide +kernel
  have e0 := lJ_toInt (n := G) (by omega)
  have e1 : (lJ G * 1103515245).toInt = (G : Int) * 1103515245 := by
    rw [Jvm.Kit.i64_mul (by rw [e0, c1]; omega) (by rw [e0, c1]; omega), e0, c1]
  have e2 : (lJ G * 1103515245 + 12345).toInt = (G : Int) * 1103515245 + 12345 := by
    rw [Jvm.Kit.i64_add (by rw [e1, c2]; omega) (by rw [e1, c2]; omega), e1, c2]
  apply Int64.toInt_inj.mp
  rw [Jvm.Kit.i64_rem_nonneg (by rw [e2]; omega), e2, c3, lJ_toInt (Nat.lt_of_lt_of_le (dNx_lt G) (by decide))]
  unfold dNx
  omega
theorem dBl_eq {G b : Nat} (h : G < 2 ^ 31) (h1 : 1 ≤ b) (hb : b < 2 ^ 31) : ((lJ G / 65536) - (lJ G / 65536) / (nI b).toInt64 * (nI b).toInt64).toInt32 = nI (dBl G b) := by
  have c1 : (65536 : Int64).toInt = 65536 := by decide +kernel
  have e0 := lJ_toInt (n := G) (by omega)
  have e1 : (lJ G / 65536).toInt = (G : Int) / 65536 := by rw [lg_ldiv_nonneg (by rw [e0]; omega) (by rw [c1]; omega), e0, c1]
  have e2 : ((lJ G / 65536) - (lJ G / 65536) / (nI b).toInt64 * (nI b).toInt64).toInt = ((dBl G b : Nat) : Int) := by
    rw [Jvm.Kit.i64_rem_nonneg (by rw [e1]; omega), e1, lJ_of hb, lJ_toInt (by omega)]
    unfold dBl
    rw [Int.natCast_emod, Int.natCast_ediv]
    rfl
  have := dBl_lt (G := G) h1
  apply Int32.toInt_inj.mp
  rw [Jvm.Kit.i32_of_i64 (by rw [e2]; omega) (by rw [e2]; omega), e2, nI_toInt (by omega)]
theorem sAt_of (row x : Int32) : ∀ j i pl, sAt row x j i pl = -1 ∨ ∃ k, i ≤ k ∧ k < i + j ∧ bt row k = true ∧ sAt row x j i pl = nI k
  | 0, i, pl => .inl rfl
  | j + 1, i, pl => by
    unfold sAt
    split
    · rename_i q
      split
      · exact .inr ⟨i, Nat.le_refl _, by omega, q, rfl⟩
      · rcases sAt_of row x j (i + 1) (pl + 1) with h | ⟨k, h1, h2, h3, h4⟩
        · exact .inl h
        · exact .inr ⟨k, by omega, by omega, h3, h4⟩
    · rcases sAt_of row x j (i + 1) pl with h | ⟨k, h1, h2, h3, h4⟩
      · exact .inl h
      · exact .inr ⟨k, by omega, by omega, h3, h4⟩
/-- the shots in the drawers -/
def tDr (n : Nat) (T : TT) : Int32 := pb (fun k => !(T.1 k == 0)) n
theorem tDr_bits {n : Nat} {T : TT} (hn : n ≤ 10) (h : ¬ tDr n T = 0) : ∃ b, 1 ≤ b ∧ b ≤ 10 ∧ jBit (tDr n T) = nI b := by
  obtain ⟨m, h1, h2⟩ := pb_small (fun k => !(T.1 k == 0)) hn
  have h3 : tDr n T = nI m := h2
  rw [h3] at h ⊢
  have h4 := bits_le m h1
  obtain ⟨b, h5, h6⟩ := nI_of h4.1
  rw [h6] at h4 ⊢
  have h7 := h4.2.2 (fun e => h (by rw [e]; rfl))
  rw [show (1 : Int32) = nI 1 from rfl, nI_ltI h5 (by decide)] at h7
  have h8 := h4.2.1
  rw [show (10 : Int32) = nI 10 from rfl, nI_leI h5 (by decide)] at h8
  exact ⟨b, by omega, h8, rfl⟩
/-- one is drawn to be given back, perhaps -/
def giveT (n : Nat) (T : TT) (G : Nat) : TT × Nat :=
  if tDr n T = 0 then (T, G) else if dBl (dNx G) 4 = 0 then
    (if sAt (tDr n T) (nI (dBl (dNx (dNx G)) (jBit (tDr n T)).toNatClampNeg)) n 0 0 = -1 then (T, dNx (dNx G)) else (tLay T (sAt (tDr n T) (nI (dBl (dNx (dNx G)) (jBit (tDr n T)).toNatClampNeg)) n 0 0).toNatClampNeg 0, dNx (dNx G)))
  else (T, dNx G)
theorem giveT_ok {c : CD} {T : TT} {G : Nat} (h : TOk c T) : TOk c (giveT (cn c) T G).1 := by
  unfold giveT
  split
  · exact h
  · split
    · split
      · exact h
      · exact h.lay (Nat.zero_le _)
    · exact h
theorem giveT_lt {n : Nat} {T : TT} {G : Nat} (h : G < 2 ^ 31) : (giveT n T G).2 < 2 ^ 31 := by
  unfold giveT
  split
  · exact h
  · split
    · split
      · exact dNx_lt _
      · exact dNx_lt _
    · exact dNx_lt _
def tourT (c : CD) : Nat → TT → Nat → Int32 → Int32 → TT × Int32 × Int32
  | 0, T, _, a, b => (T, a, b)
  | j + 1, T, G, a, b => tourT c j (giveT (cn c) (cutT c T (dBl (dNx G) (ch c))) (dNx G)).1 (giveT (cn c) (cutT c T (dBl (dNx G) (ch c))) (dNx G)).2 (a + cMin c (tp (tvOf (cn c) (cutT c T (dBl (dNx G) (ch c)))))) (b + if cSen c (tp (tvOf (cn c) (cutT c T (dBl (dNx G) (ch c))))) then 0 else 1)
abbrev isTour (x y z : Int32) : Prop := ¬ x < 0 ∧ ¬ 9999 < x ∧ ¬ y < 1 ∧ ¬ 99 < y ∧ ¬ z < 0 ∧ z ≤ 2
def tourA (c : CD) (T : TT) (x y z : Int32) : Int32 := if isTour x y z then (if z = 0 then (tourT c (if ch c = 0 then 0 else y.toNatClampNeg) T x.toNatClampNeg 0 0).2.1 else if z = 1 then (tourT c (if ch c = 0 then 0 else y.toNatClampNeg) T x.toNatClampNeg 0 0).2.2 else tp (tvOf (cn c) (tourT c (if ch c = 0 then 0 else y.toNatClampNeg) T x.toNatClampNeg 0 0).1)) else -1
abbrev inZ : Nat → Prop := fun b => b = 41 ∨ b = 42 ∨ b = 128
section TX1
variable {g : GG} {d : Nat} {M : MM} {la lb pa pb rl : Nat} {c : CD} {T : TT} {G : Nat}
theorem tX1_begin {s : Nat} (L : Lay M la lb pa pb rl) (hs : s < 2 ^ 31) : R0 g YX1_begin d [.ref 128, .int (nI s)] M (fun rv M1 => rv = none ∧ mj M1 128 0 = lJ s ∧ Fr (fun b => b = 128) M M1) :=
  R0.of (by decide +kernel) (Nat.le_of_ble_eq_true rfl) rfl (qX1_begin_0 L rfl ⟨rfl, by rw [wj_at, if_pos ⟨rfl, rfl⟩, lJ_of hs], Fr.rf.wj rfl⟩)
theorem tX1_below {b : Nat} (L : Lay M la lb pa pb rl) (hG : mj M 128 0 = lJ G) (h : G < 2 ^ 31) (h1 : 1 ≤ b) (hb : b < 2 ^ 31) : R0 g YX1_below d [.ref 128, .int (nI b)] M (fun rv M1 => rv = some (.int (nI (dBl (dNx G) b))) ∧ mj M1 128 0 = lJ (dNx G) ∧ Fr (fun b => b = 128) M M1) := by
  have hle : (1 : Int32) ≤ nI b := (gel 1 rfl (by decide) hb).mpr h1
  have e1 : mj (wj M 128 0 (lJ (dNx G))) 128 0 = lJ (dNx G) := by rw [wj_at, if_pos ⟨rfl, rfl⟩]
  refine R0.of (by decide +kernel) (Nat.le_of_ble_eq_true rfl) rfl (qX1_below_0 (M1 := wj M 128 0 (lJ (dNx G))) L (by rw [hG, dNx_eq h]) (fun _ q => ?_) (fun _ => ⟨?_, e1, Fr.rf.wj rfl⟩) (fun r => absurd hle r))
  · have := congrArg Int64.toInt q
    rw [lJ_of hb, lJ_toInt (by omega)] at this
    have h0 : (0 : Int64).toInt = 0 := by decide +kernel
    rw [h0] at this
    omega
  · rw [e1, dBl_eq (dNx_lt G) h1 hb]
theorem tX11_giveBackByDraw (L : Lay M la lb pa pb rl) (K : CoIs M la c) (V : TrIs M 41 (tvOf (cn c) T)) (O : TOk c T) (hG : mj M 128 0 = lJ G) (h : G < 2 ^ 31) (hd : 2 ≤ d) : R0 g YX11_giveBackByDraw d [.ref 0] M (fun rv M1 => rv = none ∧ TrIs M1 41 (tvOf (cn c) (giveT (cn c) T G).1) ∧ mj M1 128 0 = lJ (giveT (cn c) T G).2 ∧ Fr inZ M M1) := by
  have h10 := K.2.1
  have h6 := K.2.2.2.1
  have hla := L.la_lt
  have hdr : dOr (td (tvOf (cn c) T)) 6 = tDr (cn c) T := dOr_T (by omega) (fun k hk => by have := O.1 k hk; omega)
  refine R0.of (by decide +kernel) (Nat.le_of_ble_eq_true rfl) rfl (qX11_giveBackByDraw_0 L (K0.ans (d1 := d - 1) (by omega) (cDrawn L.tt V) ?_))
  rw [hdr]
  refine qX11_giveBackByDraw_7 L (fun r => ?_) (fun r => ?_)
  · unfold giveT
    rw [if_pos r]
    exact ⟨rfl, V, hG, Fr.rf⟩
  · refine K0.set (d1 := d - 1) (by omega) (tX1_below (b := 4) L hG h (by omega) (by decide)) ?_
    rintro rv M1 ⟨rfl, G1, F1⟩
    have V1 : TrIs M1 41 (tvOf (cn c) T) := V.fr F1 (by omega) (by omega)
    have K1 : CoIs M1 la c := K.fr F1 (fun k hk hb => by omega)
    refine qX11_giveBackByDraw_20 (F1.lay L) (fun r2 => ?_) (fun r2 => ?_)
    · have r3 : dBl (dNx G) 4 = 0 := by
        rw [show (0 : Int32) = nI 0 from rfl] at r2
        exact (nI_eq (by have := dBl_lt (G := dNx G) (b := 4) (by omega); omega) (by decide)).mp r2
      obtain ⟨b, b1, b2, b3⟩ := tDr_bits (T := T) h10 r
      refine K0.ans (d1 := d - 1) (by omega) tJ6_bitCount (qX11_giveBackByDraw_37 ((F1.lay L).s (a := 128) rfl (by decide)) ?_)
      rw [b3]
      refine K0.set (d1 := d - 1) (by omega) (tX1_below (b := b) (F1.lay L) G1 (dNx_lt G) b1 (by omega)) ?_
      rintro rv M2 ⟨rfl, G2, F2⟩
      have F := F1.trans F2
      have V2 : TrIs M2 41 (tvOf (cn c) T) := V1.fr F2 (by omega) (by omega)
      have K2 : CoIs M2 la c := K1.fr F2 (fun k hk hb => by omega)
      refine qX11_giveBackByDraw_40 (F.lay L).cla.o (K0.ans (d1 := d - 1) (by omega) (tX0_shotAt (F.lay L).cla K2.1 K2.2.1) ?_)
      unfold giveT
      rw [if_neg r, if_pos r3, b3, nI_clamp (by omega)]
      generalize hs : sAt (tDr (cn c) T) (nI (dBl (dNx (dNx G)) b)) (cn c) 0 0 = s
      have hFz : Fr inZ M M2 := F.mono (fun b hb => .inr (.inr hb))
      refine qX11_giveBackByDraw_43 (F.lay L) (fun r4 => ?_) (fun r4 => ?_)
      · rw [if_pos r4]
        exact qX11_giveBackByDraw_65 ⟨rfl, V2, G2, hFz⟩
      · rw [if_neg r4]
        rcases sAt_of (tDr (cn c) T) (nI (dBl (dNx (dNx G)) b)) (cn c) 0 0 with q | ⟨k, -, k2, k3, k4⟩
        · exact absurd (hs.symm.trans q) r4
        · rw [hs] at k4
          subst k4
          have hk : k < cn c := by omega
          rw [nI_clamp (by omega)]
          unfold tDr at k3
          rw [bt_pb _ _ (by omega) k (by omega)] at k3
          simp only [Bool.and_eq_true, decide_eq_true_eq, Bool.not_eq_true', beq_eq_false_iff_ne] at k3
          have hk7 := O.1 k hk
          have hh := tX10_holderOf (g := g) (d := d - 1) (s := nI k) (F.lay L).tt (by omega)
          have he : tHold (mi M2 (41 + 1)) (nI k) 6 0 = nI (T.1 k - 1) := by
            have e1 : ∀ j i, i + j = 6 → tHold (mi M2 (41 + 1)) (nI k) j i = tHold (td (tvOf (cn c) T)) (nI k) j i := by
              intro j
              induction j with
              | zero => intro i _; rfl
              | succ j ih => intro i hi; rw [tHold, tHold, tHas_eq V2.2.1, ih (i + 1) (by omega)]
            rw [e1 6 0 rfl, tHold_T (by omega) hk (by omega), if_neg k3.2]
          rw [he] at hh
          refine K0.ans (d1 := d - 1) (by omega) hh (qX11_giveBackByDraw_61 (F.lay L).tt.o (K0.set (d1 := d - 1) (by omega) (tX10_giveBack (F.lay L).tt V2 (by omega) (by rw [tHas_T (by omega) hk (by omega)]; exact decide_eq_true (by omega)) (by omega)) ?_))
          rintro rv M3 ⟨rfl, V3, F3⟩
          rw [vGive_T (by omega) hk (by omega)] at V3
          refine qX11_giveBackByDraw_65 ⟨rfl, V3, ?_, hFz.trans (F3.mono (fun b hb => by rcases hb with hb | hb <;> omega))⟩
          rw [F3.j (fun hb => by rcases hb with hb | hb <;> omega)]
          exact G2
    · have r3 : ¬ dBl (dNx G) 4 = 0 := fun z => r2 (by rw [z]; rfl)
      unfold giveT
      rw [if_neg r, if_neg r3]
      exact ⟨rfl, V1, G1, F1.mono (fun b hb => .inr (.inr hb))⟩
theorem cShowAt {t hl : Nat} {v : TV} (L : Lay M la lb pa pb rl) (K : CoIs M la c) (C : Trv M t) (V : TrIs M t v) (h : hl < ch c) (hd : 4 ≤ d) : R0 g YX10_showAt d [.ref t, .ref la, .int (nI hl)] M (fun rv M1 => rv = none ∧ TrIs M1 t (vShow v hl (cTk c hl (tp v))) ∧ Fr (inT t) M M1) := by
  have := tX10_showAt (g := g) (d := d) C L.cla V K.1 K.2.1 K.2.2.1 K.2.2.2.1 h hd
  rw [K.2.2.2.2.1, K.2.2.2.2.2.2.2.1, K.2.2.2.2.2.2.2.2] at this
  exact this
theorem tX11_tours {x y z : Int32} (L : Lay M la lb pa pb rl) (K : CoIs M la c) (V : TrIs M 39 (tvOf (cn c) T)) (O : TOk c T) (hd : 5 ≤ d) : R0 g YX11_tours d [.ref 0, .int x, .int y, .int z] M (fun rv M1 => rv = some (.int (tourA c T x y z)) ∧ Fr inZ M M1) := by
  have h10 := K.2.1
  have h6 := K.2.2.2.1
  have hla := L.la_lt
  have no : ¬ isTour x y z → E0 g YX11_tours d 26 [(0, .ref 0), (1, .int x), (2, .int y), (3, .int z)] [] M (fun rv M1 => rv = some (.int (tourA c T x y z)) ∧ Fr inZ M M1) := fun r => qX11_tours_26 ⟨by unfold tourA; rw [if_neg r], Fr.rf⟩
  have no2 : ¬ isTour x y z → (some (Value.int (-1)) : Option Value) = some (.int (tourA c T x y z)) ∧ Fr inZ M M := fun r => ⟨by unfold tourA; rw [if_neg r], Fr.rf⟩
  refine R0.of (by decide +kernel) (Nat.le_of_ble_eq_true rfl) rfl (qX11_tours_0 L (fun r => no fun q => q.1 r) (fun _ r => no fun q => q.2.1 r) (fun _ _ r => no fun q => q.2.2.1 r) (fun _ _ _ r => no fun q => q.2.2.2.1 r) (fun _ _ _ _ r => no2 fun q => q.2.2.2.2.1 r) (fun r1 r2 r3 r4 r5 r6 => ?_) (fun _ _ _ _ _ r => no2 fun q => r q.2.2.2.2.2))
  have hT : isTour x y z := ⟨r1, r2, r3, r4, r5, r6⟩
  obtain ⟨s, s1, rfl⟩ := nI_of r1
  have hy0 : ¬ y < 0 := fun q => r3 (Int32.lt_trans q (by decide))
  obtain ⟨N, N1, rfl⟩ := nI_of hy0
  have hN : N ≤ 99 := by
    rw [show (99 : Int32) = nI 99 from rfl, nI_ltI (by decide) N1] at r4
    omega
  refine K0.set (d1 := d - 1) (by omega) (tX10_copy L.tt L.tn V ⟨by omega, by omega, by omega⟩) ?_
  rintro rv M1 ⟨rfl, V1, F1⟩
  refine qX11_tours_62 (F1.lay L) (K0.set (d1 := d - 1) (by omega) (tX1_begin (F1.lay L) s1) ?_)
  rintro rv M2 ⟨rfl, G2, F2⟩
  refine qX11_tours_70 ?_
  have F12 : Fr inZ M M2 := (F1.mono (fun b hb => by rcases hb with hb | hb <;> omega)).trans (F2.mono (fun b hb => .inr (.inr hb)))
  have V2 : TrIs M2 41 (tvOf (cn c) T) := V1.fr F2 (by omega) (by omega)
  have hA : tourA c T (nI s) (nI N) z = (if z = 0 then (tourT c (if ch c = 0 then 0 else N) T s 0 0).2.1 else if z = 1 then (tourT c (if ch c = 0 then 0 else N) T s 0 0).2.2 else tp (tvOf (cn c) (tourT c (if ch c = 0 then 0 else N) T s 0 0).1)) := by
    unfold tourA
    rw [if_pos hT, nI_clamp s1, nI_clamp N1]
  rw [hA]
  by_cases h0' : ch c = 0
  · rw [if_pos h0']
    have K2 : CoIs M2 la c := K.fr F12 (fun k hk hb => by rcases hb with hb | hb | hb <;> omega)
    have le : mi M2 la 5 ≤ 0 := by rw [K2.2.2.1, h0']; decide
    refine qX11_tours_73 (F12.lay L) (fun _ z0 z1 => ⟨?_, F12⟩) (fun _ z0 z1 => ⟨?_, F12⟩) (fun _ z0 => ⟨?_, F12⟩) (fun _ _ z0 z1 => ⟨?_, F12⟩) (fun _ _ z0 z1 => ⟨?_, F12⟩) (fun _ _ z0 => ⟨?_, F12⟩) (fun _ r => absurd le r)
    · rw [if_neg z0, if_neg z1, V2.1]; rfl
    · rw [if_neg z0, if_pos z1]; rfl
    · rw [if_pos z0]; rfl
    · rw [if_neg z0, if_neg z1, V2.1]; rfl
    · rw [if_neg z0, if_pos z1]; rfl
    · rw [if_pos z0]; rfl
  · rw [if_neg h0']
    have key := up0 (p := fun k => ∀ M2 T G a b, Fr inZ M M2 → TrIs M2 41 (tvOf (cn c) T) → TOk c T → mj M2 128 0 = lJ G → G < 2 ^ 31 → E0 g YX11_tours d 73 [(0, .ref 0), (2, .int (nI N)), (3, .int z), (5, .int a), (6, .int b), (7, .int (nI k))] [] M2 (fun rv M3 => rv = some (.int (if z = 0 then (tourT c (N - k) T G a b).2.1 else if z = 1 then (tourT c (N - k) T G a b).2.2 else tp (tvOf (cn c) (tourT c (N - k) T G a b).1))) ∧ Fr inZ M M3)) N (fun M2 T G a b F V O G1 G2 => ?_) (fun k hk ih M2 T G a b F V O G1 G2 => ?_)
    · exact key M2 T s 0 0 F12 V2 O G2 s1
    · have le : nI N ≤ nI N := nI_le (Nat.le_refl _) N1
      rw [Nat.sub_self]
      refine qX11_tours_73 (F.lay L) (fun _ z0 z1 => ⟨?_, F⟩) (fun _ z0 z1 => ⟨?_, F⟩) (fun _ z0 => ⟨?_, F⟩) (fun r => absurd le r) (fun r => absurd le r) (fun r => absurd le r) (fun r => absurd le r)
      · rw [if_neg z0, if_neg z1, V.1]; rfl
      · rw [if_neg z0, if_pos z1]; rfl
      · rw [if_pos z0]; rfl
    · have e : N - k = (N - (k + 1)) + 1 := by omega
      have K2 : CoIs M2 la c := K.fr F (fun k hk hb => by rcases hb with hb | hb | hb <;> omega)
      have nle : ¬ nI N ≤ nI k := by rw [nI_leI (by omega) (by omega)]; omega
      have nle2 : ¬ mi M2 la 5 ≤ 0 := by rw [K2.2.2.1]; exact nI_nle (by omega) (by omega)
      have hlt : dBl (dNx G) (ch c) < ch c := dBl_lt (by omega)
      rw [e, tourT]
      refine qX11_tours_73 (F.lay L) (fun r => absurd r nle) (fun r => absurd r nle) (fun r => absurd r nle) (fun _ r => absurd r nle2) (fun _ r => absurd r nle2) (fun _ r => absurd r nle2) (fun _ _ => ?_)
      rw [K2.2.2.1]
      refine K0.set (d1 := d - 1) (by omega) (tX1_below (F.lay L) G1 G2 (by omega) (by omega)) ?_
      rintro rv M3 ⟨rfl, G3, F3⟩
      have F03 : Fr inZ M M3 := F.trans (F3.mono (fun b hb => .inr (.inr hb)))
      have V3 : TrIs M3 41 (tvOf (cn c) T) := V.fr F3 (by omega) (by omega)
      have K3 : CoIs M3 la c := K.fr F03 (fun k hk hb => by rcases hb with hb | hb | hb <;> omega)
      refine qX11_tours_111 (F03.lay L).tt.o (K0.set (d1 := d - 1) (by omega) (cShowAt (F03.lay L) K3 (F03.lay L).tt V3 hlt (by omega)) ?_)
      rintro rv M4 ⟨rfl, V4, F4⟩
      rw [vShow_c h10] at V4
      have F04 : Fr inZ M M4 := F03.trans (F4.mono (fun b hb => by rcases hb with hb | hb <;> omega))
      have K4 : CoIs M4 la c := K.fr F04 (fun k hk hb => by rcases hb with hb | hb | hb <;> omega)
      have G4 : mj M4 128 0 = lJ (dNx G) := by rw [F4.j (fun hb => by rcases hb with hb | hb <;> omega)]; exact G3
      refine qX11_tours_114 (F04.lay L) ?_
      rw [V4.1]
      refine K0.ans (d1 := d - 1) (by omega) (cMinutes (F04.lay L).cla K4) (qX11_tours_130 (F04.lay L) ?_)
      rw [V4.1]
      refine K0.ans (d1 := d - 1) (by omega) (cSense (F04.lay L).cla K4) (qX11_tours_149 (F04.lay L) (fun r => ?_) (fun r => ?_))
      · rw [b2i_z] at r
        rw [r, show (if (false = true) then (0 : Int32) else 1) = 1 from rfl]
        refine K0.set (d1 := d - 1) (by omega) (tX11_giveBackByDraw (F04.lay L) K4 V4 (O.cut hlt) G4 (dNx_lt G) (by omega)) ?_
        rintro rv M5 ⟨rfl, V5, G5, F5⟩
        refine qX11_tours_164 ?_
        rw [nI_1]
        exact ih M5 _ _ _ _ (F04.trans F5) V5 (giveT_ok (O.cut hlt)) G5 (giveT_lt (dNx_lt G))
      · rw [b2i_n] at r
        rw [r, show (if (true = true) then (0 : Int32) else 1) = 0 from rfl]
        refine K0.set (d1 := d - 1) (by omega) (tX11_giveBackByDraw (F04.lay L) K4 V4 (O.cut hlt) G4 (dNx_lt G) (by omega)) ?_
        rintro rv M5 ⟨rfl, V5, G5, F5⟩
        refine qX11_tours_164 ?_
        rw [nI_1]
        exact ih M5 _ _ _ _ (F04.trans F5) V5 (giveT_ok (O.cut hlt)) G5 (giveT_lt (dNx_lt G))
end TX1
