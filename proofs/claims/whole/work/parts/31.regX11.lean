set_option maxRecDepth 8000 in
theorem qX11_feed_0 {g : GG} {d : Nat} {M : MM} {P : Option Value → MM → Prop} {j1 : Int64} {j3 : Int64} {j5 : Int64} {la lb pa pb rl : Nat} (L : Lay M la lb pa pb rl)
    (k1 : K0 g YX11_feed YX9_addBytes d 8 [.ref 25, .long j1] [(0, .ref 0), (3, .long j3), (5, .long j5)] [] M P) :
    E0 g YX11_feed d 0 [(0, .ref 0), (1, .long j1), (3, .long j3), (5, .long j5)] [] M P := by
  have f1 : ob M 0 11 := L.s rfl (by decide)
  have f2 : mr M 0 0 = some 25 := L.r 0 rfl
  have f3 : ob M 25 9 := L.s rfl (by decide)
  refine x_aload_n dX11_feed_0 0 rfl ?_
  refine x_getR fdX11_22 rfl dX11_feed_1 f1.1 f1.2 f2 ?_
  refine x_lload_n dX11_feed_4 1 rfl ?_
  refine EX.sub [0, 2, 3] (K0.v (As := [.long j1]) (st := []) cvX11_94 dX11_feed_5 rfl rfl f3 rfl (Nat.le_of_ble_eq_true rfl) (k1)) rfl
set_option maxRecDepth 8000 in
theorem qX11_feed_8 {g : GG} {d : Nat} {M : MM} {P : Option Value → MM → Prop} {j3 : Int64} {j5 : Int64} {la lb pa pb rl : Nat} (L : Lay M la lb pa pb rl)
    (k1 : K0 g YX11_feed YX9_addBytes d 16 [.ref 25, .long j3] [(0, .ref 0), (5, .long j5)] [] M P) :
    E0 g YX11_feed d 8 [(0, .ref 0), (3, .long j3), (5, .long j5)] [] M P := by
  have f1 : ob M 0 11 := L.s rfl (by decide)
  have f2 : mr M 0 0 = some 25 := L.r 0 rfl
  have f3 : ob M 25 9 := L.s rfl (by decide)
  refine x_aload_n dX11_feed_8 0 rfl ?_
  refine x_getR fdX11_22 rfl dX11_feed_9 f1.1 f1.2 f2 ?_
  refine x_lload_n dX11_feed_12 1 rfl ?_
  refine EX.sub [0, 2] (K0.v (As := [.long j3]) (st := []) cvX11_94 dX11_feed_13 rfl rfl f3 rfl (Nat.le_of_ble_eq_true rfl) (k1)) rfl
set_option maxRecDepth 8000 in
theorem qX11_feed_16 {g : GG} {d : Nat} {M : MM} {P : Option Value → MM → Prop} {j5 : Int64} {la lb pa pb rl : Nat} (L : Lay M la lb pa pb rl)
    (k1 : K0 g YX11_feed YX9_addBytes d 25 [.ref 25, .long j5] [(0, .ref 0)] [] M P) :
    E0 g YX11_feed d 16 [(0, .ref 0), (5, .long j5)] [] M P := by
  have f1 : ob M 0 11 := L.s rfl (by decide)
  have f2 : mr M 0 0 = some 25 := L.r 0 rfl
  have f3 : ob M 25 9 := L.s rfl (by decide)
  refine x_aload_n dX11_feed_16 0 rfl ?_
  refine x_getR fdX11_22 rfl dX11_feed_17 f1.1 f1.2 f2 ?_
  refine x_lload dX11_feed_20 1 rfl ?_
  refine EX.sub [0] (K0.v (As := [.long j5]) (st := []) cvX11_94 dX11_feed_22 rfl rfl f3 rfl (Nat.le_of_ble_eq_true rfl) (k1)) rfl
set_option maxRecDepth 8000 in
theorem qX11_feed_25 {g : GG} {d : Nat} {M : MM} {P : Option Value → MM → Prop}  {la lb pa pb rl : Nat} (L : Lay M la lb pa pb rl)
    (k1 : P (some (.int (mi M 25 2))) M) :
    E0 g YX11_feed d 25 [(0, .ref 0)] [] M P := by
  have f1 : ob M 0 11 := L.s rfl (by decide)
  have f2 : mr M 0 0 = some 25 := L.r 0 rfl
  have f3 : ob M 25 9 := L.s rfl (by decide)
  refine x_aload_n dX11_feed_25 0 rfl ?_
  refine x_getR fdX11_22 rfl dX11_feed_26 f1.1 f1.2 f2 ?_
  refine x_getI fdX11_98 rfl dX11_feed_29 f3.1 f3.2 ?_
  exact x_iret rfl dX11_feed_32 (Nat.le_refl _) (Nat.le_refl _) (k1)
set_option maxRecDepth 8000 in
theorem qX11_county_0 {g : GG} {d : Nat} {M : MM} {P : Option Value → MM → Prop}  {la lb pa pb rl : Nat} (L : Lay M la lb pa pb rl)
    (k1 : K0 g YX11_county YX7_readCounty d 11 [.ref 28, .ref lb] [(0, .ref 0)] [] M P) :
    E0 g YX11_county d 0 [(0, .ref 0)] [] M P := by
  have f1 : ob M 0 11 := L.s rfl (by decide)
  have f2 : mr M 0 1 = some 28 := L.r 1 rfl
  have f3 : mr M 0 3 = some lb := L.rlb
  have f4 : ob M 28 7 := L.s rfl (by decide)
  refine x_aload_n dX11_county_0 0 rfl ?_
  refine x_getR fdX11_31 rfl dX11_county_1 f1.1 f1.2 f2 ?_
  refine x_aload_n dX11_county_4 0 rfl ?_
  refine x_getR fdX11_16 rfl dX11_county_5 f1.1 f1.2 f3 ?_
  refine EX.sub [0] (K0.v (As := [.ref lb]) (st := []) cvX11_102 dX11_county_8 rfl rfl f4 rfl (Nat.le_of_ble_eq_true rfl) (k1)) rfl
set_option maxRecDepth 8000 in
theorem qX11_county_11 {g : GG} {d : Nat} {M : MM} {P : Option Value → MM → Prop} {s0 : Int32} {b0_2_M2 : Nat} {M1 : MM} {M2 : MM} {la lb pa pb rl : Nat} (L : Lay M la lb pa pb rl)
    (qM1 : M1 = wr M 0 2 (some lb))
    (qM2 : M2 = wr M1 0 3 (some la))
    (h1 : mr M2 0 2 = some b0_2_M2)
    (h2 : ob M b0_2_M2 0)
    (k1 : ¬ s0 = 0 → E0 g YX11_county d 45 [(1, .int s0)] [] M P)
    (k2 : s0 = 0 → K0 g YX11_county YX0_judgeAll d 41 [.ref b0_2_M2] [(0, .ref 0), (1, .int s0)] [] M2 P) :
    E0 g YX11_county d 11 [(0, .ref 0)] [.int s0] M P := by
  have f1 : ob M 0 11 := L.s rfl (by decide)
  have f2 : mr M 0 2 = some la := L.rla
  have f3 : mr M 0 3 = some lb := L.rlb
  subst qM1 qM2
  refine x_istore_n (lv1 := [(1, .int s0), (0, .ref 0)]) dX11_county_11 (by decide) rfl ?_
  refine x_iload_n dX11_county_12 0 rfl ?_
  refine x_if_ne 45 dX11_county_13 (by decide) (fun c1 => ?_) (fun c1 => ?_)
  · exact EX.sub [0] (k1 c1) rfl
  · refine x_aload_n dX11_county_16 1 rfl ?_
    refine x_getR fdX11_10 rfl dX11_county_17 f1.1 f1.2 f2 ?_
    refine x_astore_n (lv1 := [(2, .ref la), (1, .int s0), (0, .ref 0)]) dX11_county_20 (by decide) rfl ?_
    refine x_aload_n dX11_county_21 2 rfl ?_
    refine x_aload_n dX11_county_22 2 rfl ?_
    refine x_getR fdX11_16 rfl dX11_county_23 f1.1 f1.2 f3 ?_
    refine x_putR fdX11_10 rfl (Or.inl rfl) dX11_county_26 f1.1 f1.2 ?_
    refine x_aload_n dX11_county_29 2 rfl ?_
    refine x_aload_n dX11_county_30 0 rfl ?_
    refine x_putR fdX11_16 rfl (Or.inl rfl) dX11_county_31 f1.1 f1.2 ?_
    refine x_aload_n dX11_county_34 2 rfl ?_
    refine x_getR fdX11_10 rfl dX11_county_35 f1.1 f1.2 h1 ?_
    refine EX.sub [2, 1] (K0.v (As := []) (st := []) cvX11_106 dX11_county_38 rfl rfl h2 rfl (Nat.le_of_ble_eq_true rfl) (k2 c1)) rfl
set_option maxRecDepth 8000 in
theorem qX11_county_41 {g : GG} {d : Nat} {M : MM} {P : Option Value → MM → Prop} {i1 : Int32} {la lb pa pb rl : Nat} (L : Lay M la lb pa pb rl)
    (k1 : K0 g YX11_county YX11_beginAnew d 45 [.ref 0] [(1, .int i1)] [] M P) :
    E0 g YX11_county d 41 [(0, .ref 0), (1, .int i1)] [] M P := by
  have f1 : ob M 0 11 := L.s rfl (by decide)
  refine x_aload_n dX11_county_41 0 rfl ?_
  refine EX.sub [1] (K0.v (As := []) (st := []) cvX11_109 dX11_county_42 rfl rfl f1 rfl (Nat.le_of_ble_eq_true rfl) (k1)) rfl
set_option maxRecDepth 8000 in
theorem qX11_county_45 {g : GG} {d : Nat} {M : MM} {P : Option Value → MM → Prop} {i1 : Int32}
    (k1 : P (some (.int i1)) M) :
    E0 g YX11_county d 45 [(1, .int i1)] [] M P := by
  refine x_iload_n dX11_county_45 0 rfl ?_
  exact x_iret rfl dX11_county_46 (Nat.le_refl _) (Nat.le_refl _) (k1)
set_option maxRecDepth 8000 in
theorem qX11_round_0 {g : GG} {d : Nat} {M : MM} {P : Option Value → MM → Prop}  {la lb pa pb rl : Nat} (L : Lay M la lb pa pb rl)
    (k1 : K0 g YX11_round YX7_readPlan d 15 [.ref 28, .ref la, .ref pb] [(0, .ref 0)] [] M P) :
    E0 g YX11_round d 0 [(0, .ref 0)] [] M P := by
  have f1 : ob M 0 11 := L.s rfl (by decide)
  have f2 : mr M 0 1 = some 28 := L.r 1 rfl
  have f3 : mr M 0 2 = some la := L.rla
  have f4 : mr M 0 5 = some pb := L.rpb
  have f5 : ob M 28 7 := L.s rfl (by decide)
  refine x_aload_n dX11_round_0 0 rfl ?_
  refine x_getR fdX11_31 rfl dX11_round_1 f1.1 f1.2 f2 ?_
  refine x_aload_n dX11_round_4 0 rfl ?_
  refine x_getR fdX11_10 rfl dX11_round_5 f1.1 f1.2 f3 ?_
  refine x_aload_n dX11_round_8 0 rfl ?_
  refine x_getR fdX11_42 rfl dX11_round_9 f1.1 f1.2 f4 ?_
  refine EX.sub [0] (K0.v (As := [.ref la, .ref pb]) (st := []) cvX11_112 dX11_round_12 rfl rfl f5 rfl (Nat.le_of_ble_eq_true rfl) (k1)) rfl
set_option maxRecDepth 8000 in
theorem qX11_round_15 {g : GG} {d : Nat} {M : MM} {P : Option Value → MM → Prop} {s0 : Int32} {M1 : MM} {M2 : MM} {la lb pa pb rl : Nat} (L : Lay M la lb pa pb rl)
    (qM1 : M1 = wr M 0 4 (some pb))
    (qM2 : M2 = wr M1 0 5 (some pa))
    (k1 : ¬ s0 = 0 → P (some (.int s0)) M)
    (k2 : s0 = 0 → P (some (.int s0)) M2) :
    E0 g YX11_round d 15 [(0, .ref 0)] [.int s0] M P := by
  have f1 : ob M 0 11 := L.s rfl (by decide)
  have f2 : mr M 0 4 = some pa := L.rpa
  have f3 : mr M 0 5 = some pb := L.rpb
  subst qM1 qM2
  refine x_istore_n (lv1 := [(1, .int s0), (0, .ref 0)]) dX11_round_15 (by decide) rfl ?_
  refine x_iload_n dX11_round_16 0 rfl ?_
  refine x_if_ne 38 dX11_round_17 (by decide) (fun c1 => ?_) (fun c1 => ?_)
  · refine x_iload_n dX11_round_38 0 rfl ?_
    exact x_iret rfl dX11_round_39 (Nat.le_refl _) (Nat.le_refl _) (k1 c1)
  · refine x_aload_n dX11_round_20 1 rfl ?_
    refine x_getR fdX11_38 rfl dX11_round_21 f1.1 f1.2 f2 ?_
    refine x_astore_n (lv1 := [(2, .ref pa), (1, .int s0), (0, .ref 0)]) dX11_round_24 (by decide) rfl ?_
    refine x_aload_n dX11_round_25 2 rfl ?_
    refine x_aload_n dX11_round_26 2 rfl ?_
    refine x_getR fdX11_42 rfl dX11_round_27 f1.1 f1.2 f3 ?_
    refine x_putR fdX11_38 rfl (Or.inl rfl) dX11_round_30 f1.1 f1.2 ?_
    refine x_aload_n dX11_round_33 2 rfl ?_
    refine x_aload_n dX11_round_34 0 rfl ?_
    refine x_putR fdX11_42 rfl (Or.inl rfl) dX11_round_35 f1.1 f1.2 ?_
    refine x_iload_n dX11_round_38 1 rfl ?_
    exact x_iret rfl dX11_round_39 (Nat.le_refl _) (Nat.le_refl _) (k2 c1)
set_option maxRecDepth 8000 in
theorem qX11_shot_0 {g : GG} {d : Nat} {M : MM} {P : Option Value → MM → Prop} {i1 : Int32} {i2 : Int32} {la lb pa pb rl : Nat} (L : Lay M la lb pa pb rl)
    (k1 : K0 g YX11_shot YX0_isShot d 8 [.ref la, .int i1] [(0, .ref 0), (1, .int i1), (2, .int i2)] [] M P) :
    E0 g YX11_shot d 0 [(0, .ref 0), (1, .int i1), (2, .int i2)] [] M P := by
  have f1 : ob M 0 11 := L.s rfl (by decide)
  have f2 : mr M 0 2 = some la := L.rla
  have f3 : ob M la 0 := L.cla.o
  refine x_aload_n dX11_shot_0 0 rfl ?_
  refine x_getR fdX11_10 rfl dX11_shot_1 f1.1 f1.2 f2 ?_
  refine x_iload_n dX11_shot_4 1 rfl ?_
  refine EX.sub [0, 1, 2] (K0.v (As := [.int i1]) (st := []) cvX11_116 dX11_shot_5 rfl rfl f3 rfl (Nat.le_of_ble_eq_true rfl) (k1)) rfl
set_option maxRecDepth 8000 in
theorem qX11_shot_8 {g : GG} {d : Nat} {M : MM} {P : Option Value → MM → Prop} {i1 : Int32} {i2 : Int32} {s0 : Int32} {la lb pa pb rl : Nat} (L : Lay M la lb pa pb rl)
    (h1 : ¬ s0 = 0 → (i2 : Int32).toInt = 0 → vp_in i1 10)
    (h2 : ¬ s0 = 0 → (i2 : Int32).toInt = 1 → vp_in i1 10)
    (h3 : ¬ s0 = 0 → (i2 : Int32).toInt = 2 → vp_in i1 10)
    (k1 : ¬ s0 = 0 → (i2 : Int32).toInt < 0 ∨ 3 < (i2 : Int32).toInt → P (some (.int (-2))) M)
    (k2 : ¬ s0 = 0 → (i2 : Int32).toInt = 0 → P (some (.int (mi M (la + 2) (i1 : Int32).toNatClampNeg))) M)
    (k3 : ¬ s0 = 0 → (i2 : Int32).toInt = 1 → P (some (.int (mi M (la + 3) (i1 : Int32).toNatClampNeg))) M)
    (k4 : ¬ s0 = 0 → (i2 : Int32).toInt = 2 → P (some (.int (mi M (la + 4) (i1 : Int32).toNatClampNeg))) M)
    (k5 : ¬ s0 = 0 → (i2 : Int32).toInt = 3 → P (some (.int (((mi M 39 0) >>> (i1 &&& 31)) &&& 1))) M)
    (k6 : s0 = 0 → P (some (.int (-2))) M) :
    E0 g YX11_shot d 8 [(0, .ref 0), (1, .int i1), (2, .int i2)] [.int s0] M P := by
  have f1 : ob M 0 11 := L.s rfl (by decide)
  have f2 : mr M 0 2 = some la := L.rla
  have f3 : ob M la 0 := L.cla.o
  have f4 : mr M la 2 = some (la + 2) := L.cla.r2
  have f5 : ar M (la + 2) 1 10 := L.cla.a2
  have f6 : mr M la 3 = some (la + 3) := L.cla.r3
  have f7 : ar M (la + 3) 1 10 := L.cla.a3
  have f8 : mr M la 4 = some (la + 4) := L.cla.r4
  have f9 : ar M (la + 4) 1 10 := L.cla.a4
  have f10 : mr M 0 6 = some 39 := L.r 2 rfl
  have f11 : ob M 39 10 := L.s rfl (by decide)
  refine x_if_ne 14 dX11_shot_8 (by decide) (fun c1 => ?_) (fun c1 => ?_)
  · refine x_iload_n dX11_shot_14 2 rfl ?_
    by_cases c2 : (i2 : Int32).toInt < 0 ∨ 3 < (i2 : Int32).toInt
    · refine x_tabOut 86 dX11_shot_15 c2 (by decide) ?_
      refine x_bipush (v := (-2)) dX11_shot_86 (by decide) ?_
      exact x_iret rfl dX11_shot_88 (Nat.le_refl _) (Nat.le_refl _) (k1 c1 c2)
    · have qc2 : (i2 : Int32).toInt = 0 ∨ (i2 : Int32).toInt = 1 ∨ (i2 : Int32).toInt = 2 ∨ (i2 : Int32).toInt = 3 := by omega
      clear c2
      rcases qc2 with c2 | c2 | c2 | c2
      · refine x_tabIn 44 dX11_shot_15 (by omega) (by omega) (off := 29) (by rw [show ((i2 : Int32).toInt - 0).toNat = 0 by omega]; rfl) (by decide) ?_
        refine x_aload_n dX11_shot_44 0 rfl ?_
        refine x_getR fdX11_10 rfl dX11_shot_45 f1.1 f1.2 f2 ?_
        refine x_getR fdX11_120 rfl dX11_shot_48 f3.1 f3.2 f4 ?_
        refine x_iload_n dX11_shot_51 1 rfl ?_
        refine x_iald dX11_shot_52 f5.1 f5.2 (h1 c1 c2) ?_
        exact x_iret rfl dX11_shot_53 (Nat.le_refl _) (Nat.le_refl _) (k2 c1 c2)
      · refine x_tabIn 54 dX11_shot_15 (by omega) (by omega) (off := 39) (by rw [show ((i2 : Int32).toInt - 0).toNat = 1 by omega]; rfl) (by decide) ?_
        refine x_aload_n dX11_shot_54 0 rfl ?_
        refine x_getR fdX11_10 rfl dX11_shot_55 f1.1 f1.2 f2 ?_
        refine x_getR fdX11_123 rfl dX11_shot_58 f3.1 f3.2 f6 ?_
        refine x_iload_n dX11_shot_61 1 rfl ?_
        refine x_iald dX11_shot_62 f7.1 f7.2 (h2 c1 c2) ?_
        exact x_iret rfl dX11_shot_63 (Nat.le_refl _) (Nat.le_refl _) (k3 c1 c2)
      · refine x_tabIn 64 dX11_shot_15 (by omega) (by omega) (off := 49) (by rw [show ((i2 : Int32).toInt - 0).toNat = 2 by omega]; rfl) (by decide) ?_
        refine x_aload_n dX11_shot_64 0 rfl ?_
        refine x_getR fdX11_10 rfl dX11_shot_65 f1.1 f1.2 f2 ?_
        refine x_getR fdX11_126 rfl dX11_shot_68 f3.1 f3.2 f8 ?_
        refine x_iload_n dX11_shot_71 1 rfl ?_
        refine x_iald dX11_shot_72 f9.1 f9.2 (h3 c1 c2) ?_
        exact x_iret rfl dX11_shot_73 (Nat.le_refl _) (Nat.le_refl _) (k4 c1 c2)
      · refine x_tabIn 74 dX11_shot_15 (by omega) (by omega) (off := 59) (by rw [show ((i2 : Int32).toInt - 0).toNat = 3 by omega]; rfl) (by decide) ?_
        refine x_aload_n dX11_shot_74 0 rfl ?_
        refine x_getR fdX11_48 rfl dX11_shot_75 f1.1 f1.2 f10 ?_
        refine x_getI fdX11_129 rfl dX11_shot_78 f11.1 f11.2 ?_
        refine x_iload_n dX11_shot_81 1 rfl ?_
        refine x_ishr dX11_shot_82 ?_
        refine x_iconst (v := 1) dX11_shot_83 (by decide) ?_
        refine x_iand dX11_shot_84 ?_
        exact x_iret rfl dX11_shot_85 (Nat.le_refl _) (Nat.le_refl _) (k5 c1 c2)
  · refine x_bipush (v := (-2)) dX11_shot_11 (by decide) ?_
    exact x_iret rfl dX11_shot_13 (Nat.le_refl _) (Nat.le_refl _) (k6 c1)
set_option maxRecDepth 8000 in
theorem qX11_hall_0 {g : GG} {d : Nat} {M : MM} {P : Option Value → MM → Prop} {i1 : Int32} {i2 : Int32} {la lb pa pb rl : Nat} (L : Lay M la lb pa pb rl)
    (k1 : K0 g YX11_hall YX0_isHall d 8 [.ref la, .int i1] [(0, .ref 0), (1, .int i1), (2, .int i2)] [] M P) :
    E0 g YX11_hall d 0 [(0, .ref 0), (1, .int i1), (2, .int i2)] [] M P := by
  have f1 : ob M 0 11 := L.s rfl (by decide)
  have f2 : mr M 0 2 = some la := L.rla
  have f3 : ob M la 0 := L.cla.o
  refine x_aload_n dX11_hall_0 0 rfl ?_
  refine x_getR fdX11_10 rfl dX11_hall_1 f1.1 f1.2 f2 ?_
  refine x_iload_n dX11_hall_4 1 rfl ?_
  refine EX.sub [0, 1, 2] (K0.v (As := [.int i1]) (st := []) cvX11_132 dX11_hall_5 rfl rfl f3 rfl (Nat.le_of_ble_eq_true rfl) (k1)) rfl
set_option maxRecDepth 8000 in
theorem qX11_hall_8 {g : GG} {d : Nat} {M : MM} {P : Option Value → MM → Prop} {i1 : Int32} {i2 : Int32} {s0 : Int32} {la lb pa pb rl : Nat} (L : Lay M la lb pa pb rl)
    (h1 : ¬ s0 = 0 → (i2 : Int32).toInt = 0 → vp_in i1 6)
    (h2 : ¬ s0 = 0 → (i2 : Int32).toInt = 1 → vp_in i1 6)
    (k1 : ¬ s0 = 0 → (i2 : Int32).toInt < 0 ∨ 3 < (i2 : Int32).toInt → P (some (.int (-1))) M)
    (k2 : ¬ s0 = 0 → (i2 : Int32).toInt = 0 → P (some (.int (mi M (la + 6) (i1 : Int32).toNatClampNeg))) M)
    (k3 : ¬ s0 = 0 → (i2 : Int32).toInt = 1 → P (some (.int (mi M 40 (i1 : Int32).toNatClampNeg))) M)
    (k4 : ¬ s0 = 0 → (i2 : Int32).toInt = 2 → K0 g YX11_hall YX10_swapPlace d 76 [.ref 39, .ref la, .int i1] [] [] M P)
    (k5 : ¬ s0 = 0 → (i2 : Int32).toInt = 3 → K0 g YX11_hall YX0_takenOut d 92 [.ref la, .int i1, .int (mi M 39 0)] [] [] M P)
    (k6 : s0 = 0 → P (some (.int (-1))) M) :
    E0 g YX11_hall d 8 [(0, .ref 0), (1, .int i1), (2, .int i2)] [.int s0] M P := by
  have f1 : ob M 0 11 := L.s rfl (by decide)
  have f2 : mr M 0 2 = some la := L.rla
  have f3 : ob M la 0 := L.cla.o
  have f4 : mr M la 7 = some (la + 6) := L.cla.r7
  have f5 : ar M (la + 6) 1 6 := L.cla.a7
  have f6 : mr M 0 6 = some 39 := L.r 2 rfl
  have f7 : ob M 39 10 := L.s rfl (by decide)
  have f8 : mr M 39 1 = some 40 := L.r 43 rfl
  have f9 : ar M 40 1 6 := L.s rfl (by decide)
  refine x_if_ne 13 dX11_hall_8 (by decide) (fun c1 => ?_) (fun c1 => ?_)
  · refine x_iload_n dX11_hall_13 2 rfl ?_
    by_cases c2 : (i2 : Int32).toInt < 0 ∨ 3 < (i2 : Int32).toInt
    · refine x_tabOut 93 dX11_hall_14 c2 (by decide) ?_
      refine x_iconst (v := (-1)) dX11_hall_93 (by decide) ?_
      exact x_iret rfl dX11_hall_94 (Nat.le_refl _) (Nat.le_refl _) (k1 c1 c2)
    · have qc2 : (i2 : Int32).toInt = 0 ∨ (i2 : Int32).toInt = 1 ∨ (i2 : Int32).toInt = 2 ∨ (i2 : Int32).toInt = 3 := by omega
      clear c2
      rcases qc2 with c2 | c2 | c2 | c2
      · refine x_tabIn 44 dX11_hall_14 (by omega) (by omega) (off := 30) (by rw [show ((i2 : Int32).toInt - 0).toNat = 0 by omega]; rfl) (by decide) ?_
        refine x_aload_n dX11_hall_44 0 rfl ?_
        refine x_getR fdX11_10 rfl dX11_hall_45 f1.1 f1.2 f2 ?_
        refine x_getR fdX11_135 rfl dX11_hall_48 f3.1 f3.2 f4 ?_
        refine x_iload_n dX11_hall_51 1 rfl ?_
        refine x_iald dX11_hall_52 f5.1 f5.2 (h1 c1 c2) ?_
        exact x_iret rfl dX11_hall_53 (Nat.le_refl _) (Nat.le_refl _) (k2 c1 c2)
      · refine x_tabIn 54 dX11_hall_14 (by omega) (by omega) (off := 40) (by rw [show ((i2 : Int32).toInt - 0).toNat = 1 by omega]; rfl) (by decide) ?_
        refine x_aload_n dX11_hall_54 0 rfl ?_
        refine x_getR fdX11_48 rfl dX11_hall_55 f1.1 f1.2 f6 ?_
        refine x_getR fdX11_138 rfl dX11_hall_58 f7.1 f7.2 f8 ?_
        refine x_iload_n dX11_hall_61 1 rfl ?_
        refine x_iald dX11_hall_62 f9.1 f9.2 (h2 c1 c2) ?_
        exact x_iret rfl dX11_hall_63 (Nat.le_refl _) (Nat.le_refl _) (k3 c1 c2)
      · refine x_tabIn 64 dX11_hall_14 (by omega) (by omega) (off := 50) (by rw [show ((i2 : Int32).toInt - 0).toNat = 2 by omega]; rfl) (by decide) ?_
        refine x_aload_n dX11_hall_64 0 rfl ?_
        refine x_getR fdX11_48 rfl dX11_hall_65 f1.1 f1.2 f6 ?_
        refine x_aload_n dX11_hall_68 0 rfl ?_
        refine x_getR fdX11_10 rfl dX11_hall_69 f1.1 f1.2 f2 ?_
        refine x_iload_n dX11_hall_72 1 rfl ?_
        refine EX.sub [] (K0.v (As := [.ref la, .int i1]) (st := []) cvX11_141 dX11_hall_73 rfl rfl f7 rfl (Nat.le_of_ble_eq_true rfl) (k4 c1 c2)) rfl
      · refine x_tabIn 77 dX11_hall_14 (by omega) (by omega) (off := 63) (by rw [show ((i2 : Int32).toInt - 0).toNat = 3 by omega]; rfl) (by decide) ?_
        refine x_aload_n dX11_hall_77 0 rfl ?_
        refine x_getR fdX11_10 rfl dX11_hall_78 f1.1 f1.2 f2 ?_
        refine x_iload_n dX11_hall_81 1 rfl ?_
        refine x_aload_n dX11_hall_82 0 rfl ?_
        refine x_getR fdX11_48 rfl dX11_hall_83 f1.1 f1.2 f6 ?_
        refine x_getI fdX11_129 rfl dX11_hall_86 f7.1 f7.2 ?_
        refine EX.sub [] (K0.v (As := [.int i1, .int (mi M 39 0)]) (st := []) cvX11_145 dX11_hall_89 rfl rfl f3 rfl (Nat.le_of_ble_eq_true rfl) (k5 c1 c2)) rfl
  · refine x_iconst (v := (-1)) dX11_hall_11 (by decide) ?_
    exact x_iret rfl dX11_hall_12 (Nat.le_refl _) (Nat.le_refl _) (k6 c1)
set_option maxRecDepth 8000 in
theorem qX11_hall_76 {g : GG} {d : Nat} {M : MM} {P : Option Value → MM → Prop} {s0 : Int32}
    (k1 : P (some (.int s0)) M) :
    E0 g YX11_hall d 76 [] [.int s0] M P := by
  exact x_iret rfl dX11_hall_76 (Nat.le_refl _) (Nat.le_refl _) (k1)
set_option maxRecDepth 8000 in
theorem qX11_hall_92 {g : GG} {d : Nat} {M : MM} {P : Option Value → MM → Prop} {s0 : Int32}
    (k1 : P (some (.int s0)) M) :
    E0 g YX11_hall d 92 [] [.int s0] M P := by
  exact x_iret rfl dX11_hall_92 (Nat.le_refl _) (Nat.le_refl _) (k1)
set_option maxRecDepth 8000 in
theorem qX11_show_0 {g : GG} {d : Nat} {M : MM} {P : Option Value → MM → Prop}  {la lb pa pb rl : Nat} (L : Lay M la lb pa pb rl)
    (k1 : ¬ (mi M la 5) = 0 → K0 g YX11_show YX4_keep d 23 [.ref 43, .ref 39] [(0, .ref 0)] [] M P)
    (k2 : (mi M la 5) = 0 → P (some (.int (-1))) M) :
    E0 g YX11_show d 0 [(0, .ref 0)] [] M P := by
  have f1 : ob M 0 11 := L.s rfl (by decide)
  have f2 : mr M 0 2 = some la := L.rla
  have f3 : ob M la 0 := L.cla.o
  have f4 : mr M 0 8 = some 43 := L.r 4 rfl
  have f5 : mr M 0 6 = some 39 := L.r 2 rfl
  have f6 : ob M 43 4 := L.s rfl (by decide)
  refine x_aload_n dX11_show_0 0 rfl ?_
  refine x_getR fdX11_10 rfl dX11_show_1 f1.1 f1.2 f2 ?_
  refine x_getI fdX11_149 rfl dX11_show_4 f3.1 f3.2 ?_
  refine x_if_ne 12 dX11_show_7 (by decide) (fun c1 => ?_) (fun c1 => ?_)
  · refine x_aload_n dX11_show_12 0 rfl ?_
    refine x_getR fdX11_58 rfl dX11_show_13 f1.1 f1.2 f4 ?_
    refine x_aload_n dX11_show_16 0 rfl ?_
    refine x_getR fdX11_48 rfl dX11_show_17 f1.1 f1.2 f5 ?_
    refine EX.sub [0] (K0.v (As := [.ref 39]) (st := []) cvX11_152 dX11_show_20 rfl rfl f6 rfl (Nat.le_of_ble_eq_true rfl) (k1 c1)) rfl
  · refine x_iconst (v := (-1)) dX11_show_10 (by decide) ?_
    exact x_iret rfl dX11_show_11 (Nat.le_refl _) (Nat.le_refl _) (k2 c1)
set_option maxRecDepth 8000 in
theorem qX11_show_23 {g : GG} {d : Nat} {M : MM} {P : Option Value → MM → Prop}  {la lb pa pb rl : Nat} (L : Lay M la lb pa pb rl)
    (k1 : K0 g YX11_show YX10_showNext d 38 [.ref 39, .ref la] [] [.ref la] M P) :
    E0 g YX11_show d 23 [(0, .ref 0)] [] M P := by
  have f1 : ob M 0 11 := L.s rfl (by decide)
  have f2 : mr M 0 2 = some la := L.rla
  have f3 : mr M 0 6 = some 39 := L.r 2 rfl
  have f4 : ob M 39 10 := L.s rfl (by decide)
  refine x_aload_n dX11_show_23 0 rfl ?_
  refine x_getR fdX11_10 rfl dX11_show_24 f1.1 f1.2 f2 ?_
  refine x_aload_n dX11_show_27 0 rfl ?_
  refine x_getR fdX11_48 rfl dX11_show_28 f1.1 f1.2 f3 ?_
  refine x_aload_n dX11_show_31 0 rfl ?_
  refine x_getR fdX11_10 rfl dX11_show_32 f1.1 f1.2 f2 ?_
  refine EX.sub [] (K0.v (As := [.ref la]) (st := [.ref la]) cvX11_156 dX11_show_35 rfl rfl f4 rfl (Nat.le_of_ble_eq_true rfl) (k1)) rfl
set_option maxRecDepth 8000 in
theorem qX11_show_38 {g : GG} {d : Nat} {M : MM} {P : Option Value → MM → Prop} {s0 : Nat} {s1 : Int32}
    (h1 : ob M s0 0)
    (k1 : K0 g YX11_show YX0_minutesOf d 41 [.ref s0, .int s1] [] [] M P) :
    E0 g YX11_show d 38 [] [.int s1, .ref s0] M P := by
  refine EX.sub [] (K0.v (As := [.int s1]) (st := []) cvX11_159 dX11_show_38 rfl rfl h1 rfl (Nat.le_of_ble_eq_true rfl) (k1)) rfl
set_option maxRecDepth 8000 in
theorem qX11_show_41 {g : GG} {d : Nat} {M : MM} {P : Option Value → MM → Prop} {s0 : Int32}
    (k1 : P (some (.int s0)) M) :
    E0 g YX11_show d 41 [] [.int s0] M P := by
  exact x_iret rfl dX11_show_41 (Nat.le_refl _) (Nat.le_refl _) (k1)
set_option maxRecDepth 8000 in
theorem qX11_give_0 {g : GG} {d : Nat} {M : MM} {P : Option Value → MM → Prop} {i1 : Int32} {i2 : Int32} {la lb pa pb rl : Nat} (L : Lay M la lb pa pb rl)
    (k1 : K0 g YX11_give YX11_liesIn d 6 [.ref 0, .int i1, .int i2] [(0, .ref 0), (1, .int i1), (2, .int i2)] [] M P) :
    E0 g YX11_give d 0 [(0, .ref 0), (1, .int i1), (2, .int i2)] [] M P := by
  have f1 : ob M 0 11 := L.s rfl (by decide)
  refine x_aload_n dX11_give_0 0 rfl ?_
  refine x_iload_n dX11_give_1 1 rfl ?_
  refine x_iload_n dX11_give_2 2 rfl ?_
  refine EX.sub [0, 1, 2] (K0.v (As := [.int i1, .int i2]) (st := []) cvX11_163 dX11_give_3 rfl rfl f1 rfl (Nat.le_of_ble_eq_true rfl) (k1)) rfl
set_option maxRecDepth 8000 in
theorem qX11_give_6 {g : GG} {d : Nat} {M : MM} {P : Option Value → MM → Prop} {i1 : Int32} {i2 : Int32} {s0 : Int32} {la lb pa pb rl : Nat} (L : Lay M la lb pa pb rl)
    (k1 : ¬ s0 = 0 → K0 g YX11_give YX4_keep d 22 [.ref 43, .ref 39] [(0, .ref 0), (1, .int i1), (2, .int i2)] [] M P)
    (k2 : s0 = 0 → P (some (.int (-1))) M) :
    E0 g YX11_give d 6 [(0, .ref 0), (1, .int i1), (2, .int i2)] [.int s0] M P := by
  have f1 : ob M 0 11 := L.s rfl (by decide)
  have f2 : mr M 0 8 = some 43 := L.r 4 rfl
  have f3 : mr M 0 6 = some 39 := L.r 2 rfl
  have f4 : ob M 43 4 := L.s rfl (by decide)
  refine x_if_ne 11 dX11_give_6 (by decide) (fun c1 => ?_) (fun c1 => ?_)
  · refine x_aload_n dX11_give_11 0 rfl ?_
    refine x_getR fdX11_58 rfl dX11_give_12 f1.1 f1.2 f2 ?_
    refine x_aload_n dX11_give_15 0 rfl ?_
    refine x_getR fdX11_48 rfl dX11_give_16 f1.1 f1.2 f3 ?_
    refine EX.sub [0, 1, 2] (K0.v (As := [.ref 39]) (st := []) cvX11_152 dX11_give_19 rfl rfl f4 rfl (Nat.le_of_ble_eq_true rfl) (k1 c1)) rfl
  · refine x_iconst (v := (-1)) dX11_give_9 (by decide) ?_
    exact x_iret rfl dX11_give_10 (Nat.le_refl _) (Nat.le_refl _) (k2 c1)
set_option maxRecDepth 8000 in
theorem qX11_give_22 {g : GG} {d : Nat} {M : MM} {P : Option Value → MM → Prop} {i1 : Int32} {i2 : Int32} {la lb pa pb rl : Nat} (L : Lay M la lb pa pb rl)
    (k1 : K0 g YX11_give YX10_giveBack d 31 [.ref 39, .int i1, .int i2] [(0, .ref 0)] [] M P) :
    E0 g YX11_give d 22 [(0, .ref 0), (1, .int i1), (2, .int i2)] [] M P := by
  have f1 : ob M 0 11 := L.s rfl (by decide)
  have f2 : mr M 0 6 = some 39 := L.r 2 rfl
  have f3 : ob M 39 10 := L.s rfl (by decide)
  refine x_aload_n dX11_give_22 0 rfl ?_
  refine x_getR fdX11_48 rfl dX11_give_23 f1.1 f1.2 f2 ?_
  refine x_iload_n dX11_give_26 1 rfl ?_
  refine x_iload_n dX11_give_27 2 rfl ?_
  refine EX.sub [0] (K0.v (As := [.int i1, .int i2]) (st := []) cvX11_167 dX11_give_28 rfl rfl f3 rfl (Nat.le_of_ble_eq_true rfl) (k1)) rfl
set_option maxRecDepth 8000 in
theorem qX11_give_31 {g : GG} {d : Nat} {M : MM} {P : Option Value → MM → Prop}  {la lb pa pb rl : Nat} (L : Lay M la lb pa pb rl)
    (k1 : K0 g YX11_give YJ6_bitCount_0f7a4 d 41 [.int (mi M 39 0)] [] [] M P) :
    E0 g YX11_give d 31 [(0, .ref 0)] [] M P := by
  have f1 : ob M 0 11 := L.s rfl (by decide)
  have f2 : mr M 0 6 = some 39 := L.r 2 rfl
  have f3 : ob M 39 10 := L.s rfl (by decide)
  refine x_aload_n dX11_give_31 0 rfl ?_
  refine x_getR fdX11_48 rfl dX11_give_32 f1.1 f1.2 f2 ?_
  refine x_getI fdX11_129 rfl dX11_give_35 f3.1 f3.2 ?_
  refine EX.sub [] (K0.s (As := [.int (mi M 39 0)]) (st := []) csX11_171 dX11_give_38 rfl rfl (Nat.le_of_ble_eq_true rfl) (k1)) rfl
set_option maxRecDepth 8000 in
theorem qX11_give_41 {g : GG} {d : Nat} {M : MM} {P : Option Value → MM → Prop} {s0 : Int32}
    (k1 : P (some (.int s0)) M) :
    E0 g YX11_give d 41 [] [.int s0] M P := by
  exact x_iret rfl dX11_give_41 (Nat.le_refl _) (Nat.le_refl _) (k1)
set_option maxRecDepth 8000 in
theorem qX11_trade_0 {g : GG} {d : Nat} {M : MM} {P : Option Value → MM → Prop} {i1 : Int32} {i2 : Int32} {i3 : Int32} {la lb pa pb rl : Nat} (L : Lay M la lb pa pb rl)
    (k1 : K0 g YX11_trade YX0_isHall d 8 [.ref la, .int i2] [(0, .ref 0), (1, .int i1), (2, .int i2), (3, .int i3)] [] M P) :
    E0 g YX11_trade d 0 [(0, .ref 0), (1, .int i1), (2, .int i2), (3, .int i3)] [] M P := by
  have f1 : ob M 0 11 := L.s rfl (by decide)
  have f2 : mr M 0 2 = some la := L.rla
  have f3 : ob M la 0 := L.cla.o
  refine x_aload_n dX11_trade_0 0 rfl ?_
  refine x_getR fdX11_10 rfl dX11_trade_1 f1.1 f1.2 f2 ?_
  refine x_iload_n dX11_trade_4 2 rfl ?_
  refine EX.sub [0, 1, 2, 3] (K0.v (As := [.int i2]) (st := []) cvX11_132 dX11_trade_5 rfl rfl f3 rfl (Nat.le_of_ble_eq_true rfl) (k1)) rfl
set_option maxRecDepth 8000 in
theorem qX11_trade_8 {g : GG} {d : Nat} {M : MM} {P : Option Value → MM → Prop} {i1 : Int32} {i2 : Int32} {i3 : Int32} {s0 : Int32} {la lb pa pb rl : Nat} (L : Lay M la lb pa pb rl)
    (k1 : s0 = 0 → P (some (.int 0)) M)
    (k2 : ¬ (s0 = 0) → i1 = i2 → P (some (.int 0)) M)
    (k3 : ¬ (s0 = 0) → ¬ (i1 = i2) → K0 g YX11_trade YX11_liesIn d 22 [.ref 0, .int i1, .int i3] [(0, .ref 0), (1, .int i1), (2, .int i2), (3, .int i3)] [] M P) :
    E0 g YX11_trade d 8 [(0, .ref 0), (1, .int i1), (2, .int i2), (3, .int i3)] [.int s0] M P := by
  have f1 : ob M 0 11 := L.s rfl (by decide)
  refine x_if_eq 25 dX11_trade_8 (by decide) (fun c1 => ?_) (fun c1 => ?_)
  · refine x_iconst (v := 0) dX11_trade_25 (by decide) ?_
    exact x_zret rfl dX11_trade_26 rfl (Nat.le_refl _) (Nat.le_refl _) (k1 c1)
  · refine x_iload_n dX11_trade_11 1 rfl ?_
    refine x_iload_n dX11_trade_12 2 rfl ?_
    refine x_ic_eq 25 dX11_trade_13 (by decide) (fun c2 => ?_) (fun c2 => ?_)
    · refine x_iconst (v := 0) dX11_trade_25 (by decide) ?_
      exact x_zret rfl dX11_trade_26 rfl (Nat.le_refl _) (Nat.le_refl _) (k2 c1 c2)
    · refine x_aload_n dX11_trade_16 0 rfl ?_
      refine x_iload_n dX11_trade_17 1 rfl ?_
      refine x_iload_n dX11_trade_18 3 rfl ?_
      refine EX.sub [0, 1, 2, 3] (K0.v (As := [.int i1, .int i3]) (st := []) cvX11_163 dX11_trade_19 rfl rfl f1 rfl (Nat.le_of_ble_eq_true rfl) (k3 c1 c2)) rfl
set_option maxRecDepth 8000 in
theorem qX11_trade_22 {g : GG} {d : Nat} {M : MM} {P : Option Value → MM → Prop} {i1 : Int32} {i2 : Int32} {i3 : Int32} {s0 : Int32} {la lb pa pb rl : Nat} (L : Lay M la lb pa pb rl)
    (k1 : ¬ s0 = 0 → K0 g YX11_trade YX4_keep d 38 [.ref 43, .ref 39] [(0, .ref 0), (1, .int i1), (2, .int i2), (3, .int i3)] [] M P)
    (k2 : s0 = 0 → P (some (.int 0)) M) :
    E0 g YX11_trade d 22 [(0, .ref 0), (1, .int i1), (2, .int i2), (3, .int i3)] [.int s0] M P := by
  have f1 : ob M 0 11 := L.s rfl (by decide)
  have f2 : mr M 0 8 = some 43 := L.r 4 rfl
  have f3 : mr M 0 6 = some 39 := L.r 2 rfl
  have f4 : ob M 43 4 := L.s rfl (by decide)
  refine x_if_ne 27 dX11_trade_22 (by decide) (fun c1 => ?_) (fun c1 => ?_)
  · refine x_aload_n dX11_trade_27 0 rfl ?_
    refine x_getR fdX11_58 rfl dX11_trade_28 f1.1 f1.2 f2 ?_
    refine x_aload_n dX11_trade_31 0 rfl ?_
    refine x_getR fdX11_48 rfl dX11_trade_32 f1.1 f1.2 f3 ?_
    refine EX.sub [0, 1, 2, 3] (K0.v (As := [.ref 39]) (st := []) cvX11_152 dX11_trade_35 rfl rfl f4 rfl (Nat.le_of_ble_eq_true rfl) (k1 c1)) rfl
  · refine x_iconst (v := 0) dX11_trade_25 (by decide) ?_
    exact x_zret rfl dX11_trade_26 rfl (Nat.le_refl _) (Nat.le_refl _) (k2 c1)
set_option maxRecDepth 8000 in
theorem qX11_trade_38 {g : GG} {d : Nat} {M : MM} {P : Option Value → MM → Prop} {i1 : Int32} {i2 : Int32} {i3 : Int32} {la lb pa pb rl : Nat} (L : Lay M la lb pa pb rl)
    (k1 : K0 g YX11_trade YX10_handOver d 48 [.ref 39, .int i1, .int i2, .int i3] [] [] M P) :
    E0 g YX11_trade d 38 [(0, .ref 0), (1, .int i1), (2, .int i2), (3, .int i3)] [] M P := by
  have f1 : ob M 0 11 := L.s rfl (by decide)
  have f2 : mr M 0 6 = some 39 := L.r 2 rfl
  have f3 : ob M 39 10 := L.s rfl (by decide)
  refine x_aload_n dX11_trade_38 0 rfl ?_
  refine x_getR fdX11_48 rfl dX11_trade_39 f1.1 f1.2 f2 ?_
  refine x_iload_n dX11_trade_42 1 rfl ?_
  refine x_iload_n dX11_trade_43 2 rfl ?_
  refine x_iload_n dX11_trade_44 3 rfl ?_
  refine EX.sub [] (K0.v (As := [.int i1, .int i2, .int i3]) (st := []) cvX11_176 dX11_trade_45 rfl rfl f3 rfl (Nat.le_of_ble_eq_true rfl) (k1)) rfl
set_option maxRecDepth 8000 in
theorem qX11_trade_48 {g : GG} {d : Nat} {M : MM} {P : Option Value → MM → Prop} 
    (k1 : P (some (.int 1)) M) :
    E0 g YX11_trade d 48 [] [] M P := by
  refine x_iconst (v := 1) dX11_trade_48 (by decide) ?_
  exact x_zret rfl dX11_trade_49 rfl (Nat.le_refl _) (Nat.le_refl _) (k1)
set_option maxRecDepth 8000 in
theorem qX11_turn_0 {g : GG} {d : Nat} {M : MM} {P : Option Value → MM → Prop}  {la lb pa pb rl : Nat} (L : Lay M la lb pa pb rl)
    (k1 : K0 g YX11_turn YX4_keep d 11 [.ref 43, .ref 39] [(0, .ref 0)] [] M P) :
    E0 g YX11_turn d 0 [(0, .ref 0)] [] M P := by
  have f1 : ob M 0 11 := L.s rfl (by decide)
  have f2 : mr M 0 8 = some 43 := L.r 4 rfl
  have f3 : mr M 0 6 = some 39 := L.r 2 rfl
  have f4 : ob M 43 4 := L.s rfl (by decide)
  refine x_aload_n dX11_turn_0 0 rfl ?_
  refine x_getR fdX11_58 rfl dX11_turn_1 f1.1 f1.2 f2 ?_
  refine x_aload_n dX11_turn_4 0 rfl ?_
  refine x_getR fdX11_48 rfl dX11_turn_5 f1.1 f1.2 f3 ?_
  refine EX.sub [0] (K0.v (As := [.ref 39]) (st := []) cvX11_152 dX11_turn_8 rfl rfl f4 rfl (Nat.le_of_ble_eq_true rfl) (k1)) rfl
set_option maxRecDepth 8000 in
theorem qX11_turn_11 {g : GG} {d : Nat} {M : MM} {P : Option Value → MM → Prop}  {la lb pa pb rl : Nat} (L : Lay M la lb pa pb rl)
    (k1 : K0 g YX11_turn YX10_turnRound d 18 [.ref 39] [(0, .ref 0)] [] M P) :
    E0 g YX11_turn d 11 [(0, .ref 0)] [] M P := by
  have f1 : ob M 0 11 := L.s rfl (by decide)
  have f2 : mr M 0 6 = some 39 := L.r 2 rfl
  have f3 : ob M 39 10 := L.s rfl (by decide)
  refine x_aload_n dX11_turn_11 0 rfl ?_
  refine x_getR fdX11_48 rfl dX11_turn_12 f1.1 f1.2 f2 ?_
  refine EX.sub [0] (K0.v (As := []) (st := []) cvX11_180 dX11_turn_15 rfl rfl f3 rfl (Nat.le_of_ble_eq_true rfl) (k1)) rfl
set_option maxRecDepth 8000 in
theorem qX11_turn_18 {g : GG} {d : Nat} {M : MM} {P : Option Value → MM → Prop}  {la lb pa pb rl : Nat} (L : Lay M la lb pa pb rl)
    (k1 : K0 g YX11_turn YX11_nextHall d 22 [.ref 0] [] [] M P) :
    E0 g YX11_turn d 18 [(0, .ref 0)] [] M P := by
  have f1 : ob M 0 11 := L.s rfl (by decide)
  refine x_aload_n dX11_turn_18 0 rfl ?_
  refine EX.sub [] (K0.v (As := []) (st := []) cvX11_183 dX11_turn_19 rfl rfl f1 rfl (Nat.le_of_ble_eq_true rfl) (k1)) rfl
set_option maxRecDepth 8000 in
theorem qX11_turn_22 {g : GG} {d : Nat} {M : MM} {P : Option Value → MM → Prop} {s0 : Int32}
    (k1 : P (some (.int s0)) M) :
    E0 g YX11_turn d 22 [] [.int s0] M P := by
  exact x_iret rfl dX11_turn_22 (Nat.le_refl _) (Nat.le_refl _) (k1)
set_option maxRecDepth 8000 in
theorem qX11_undo_0 {g : GG} {d : Nat} {M : MM} {P : Option Value → MM → Prop}  {la lb pa pb rl : Nat} (L : Lay M la lb pa pb rl)
    (k1 : K0 g YX11_undo YX4_takeBack d 11 [.ref 43, .ref 39] [] [] M P) :
    E0 g YX11_undo d 0 [(0, .ref 0)] [] M P := by
  have f1 : ob M 0 11 := L.s rfl (by decide)
  have f2 : mr M 0 8 = some 43 := L.r 4 rfl
  have f3 : mr M 0 6 = some 39 := L.r 2 rfl
  have f4 : ob M 43 4 := L.s rfl (by decide)
  refine x_aload_n dX11_undo_0 0 rfl ?_
  refine x_getR fdX11_58 rfl dX11_undo_1 f1.1 f1.2 f2 ?_
  refine x_aload_n dX11_undo_4 0 rfl ?_
  refine x_getR fdX11_48 rfl dX11_undo_5 f1.1 f1.2 f3 ?_
  refine EX.sub [] (K0.v (As := [.ref 39]) (st := []) cvX11_187 dX11_undo_8 rfl rfl f4 rfl (Nat.le_of_ble_eq_true rfl) (k1)) rfl
set_option maxRecDepth 8000 in
theorem qX11_undo_11 {g : GG} {d : Nat} {M : MM} {P : Option Value → MM → Prop} {s0 : Int32}
    (h1 : s0 &&& 1 = s0)
    (k1 : P (some (.int s0)) M) :
    E0 g YX11_undo d 11 [] [.int s0] M P := by
  exact x_zret rfl dX11_undo_11 (h1) (Nat.le_refl _) (Nat.le_refl _) (k1)
set_option maxRecDepth 8000 in
theorem qX11_judged_0 {g : GG} {d : Nat} {M : MM} {P : Option Value → MM → Prop} {i1 : Int32} {la lb pa pb rl : Nat} (L : Lay M la lb pa pb rl)
    (k1 : i1 < 0 → P (some (.int (-2))) M)
    (k2 : ¬ (i1 < 0) → i1 ≤ 2 → K0 g YX11_judged YX0_film d 30 [.ref la] [(0, .ref 0), (1, .int i1), (2, .int (-1)), (3, .int (-1)), (4, .int 0)] [.ref 41] M P)
    (k3 : ¬ (i1 < 0) → ¬ (i1 ≤ 2) → P (some (.int (-2))) M) :
    E0 g YX11_judged d 0 [(0, .ref 0), (1, .int i1)] [] M P := by
  have f1 : ob M 0 11 := L.s rfl (by decide)
  have f2 : mr M 0 7 = some 41 := L.r 3 rfl
  have f3 : mr M 0 2 = some la := L.rla
  have f4 : ob M la 0 := L.cla.o
  refine x_iload_n dX11_judged_0 1 rfl ?_
  refine x_if_lt 9 dX11_judged_1 (by decide) (fun c1 => ?_) (fun c1 => ?_)
  · refine x_bipush (v := (-2)) dX11_judged_9 (by decide) ?_
    exact x_iret rfl dX11_judged_11 (Nat.le_refl _) (Nat.le_refl _) (k1 c1)
  · refine x_iload_n dX11_judged_4 1 rfl ?_
    refine x_iconst (v := 2) dX11_judged_5 (by decide) ?_
    refine x_ic_le 12 dX11_judged_6 (by decide) (fun c2 => ?_) (fun c2 => ?_)
    · refine x_iconst (v := (-1)) dX11_judged_12 (by decide) ?_
      refine x_istore_n (lv1 := [(2, .int (-1)), (0, .ref 0), (1, .int i1)]) dX11_judged_13 (by decide) rfl ?_
      refine x_iconst (v := (-1)) dX11_judged_14 (by decide) ?_
      refine x_istore_n (lv1 := [(3, .int (-1)), (2, .int (-1)), (0, .ref 0), (1, .int i1)]) dX11_judged_15 (by decide) rfl ?_
      refine x_iconst (v := 0) dX11_judged_16 (by decide) ?_
      refine x_istore (lv1 := [(4, .int 0), (3, .int (-1)), (2, .int (-1)), (0, .ref 0), (1, .int i1)]) dX11_judged_17 (by decide) rfl ?_
      refine x_aload_n dX11_judged_19 3 rfl ?_
      refine x_getR fdX11_52 rfl dX11_judged_20 f1.1 f1.2 f2 ?_
      refine x_aload_n dX11_judged_23 3 rfl ?_
      refine x_getR fdX11_10 rfl dX11_judged_24 f1.1 f1.2 f3 ?_
      refine EX.sub [3, 4, 2, 1, 0] (K0.v (As := []) (st := [.ref 41]) cvX11_191 dX11_judged_27 rfl rfl f4 rfl (Nat.le_of_ble_eq_true rfl) (k2 c1 c2)) rfl
    · refine x_bipush (v := (-2)) dX11_judged_9 (by decide) ?_
      exact x_iret rfl dX11_judged_11 (Nat.le_refl _) (Nat.le_refl _) (k3 c1 c2)
set_option maxRecDepth 8000 in
theorem qX11_judged_30 {g : GG} {d : Nat} {M : MM} {P : Option Value → MM → Prop} {i1 : Int32} {i2 : Int32} {i3 : Int32} {i4 : Int32} {s0 : Nat} {s1 : Int32}
    (h1 : ob M s0 10)
    (k1 : K0 g YX11_judged YX10_begin d 33 [.ref s0, .int s1] [(0, .ref 0), (1, .int i1), (2, .int i2), (3, .int i3), (4, .int i4)] [] M P) :
    E0 g YX11_judged d 30 [(0, .ref 0), (1, .int i1), (2, .int i2), (3, .int i3), (4, .int i4)] [.int s1, .ref s0] M P := by
  refine EX.sub [0, 1, 2, 3, 4] (K0.v (As := [.int s1]) (st := []) cvX11_194 dX11_judged_30 rfl rfl h1 rfl (Nat.le_of_ble_eq_true rfl) (k1)) rfl
set_option maxRecDepth 8000 in
theorem qX11_judged_33 {g : GG} {d : Nat} {M : MM} {P : Option Value → MM → Prop} {i1 : Int32} {i2 : Int32} {i3 : Int32} {i4 : Int32}
    (k1 : E0 g YX11_judged d 36 [(0, .ref 0), (1, .int i1), (2, .int i2), (3, .int i3), (4, .int i4), (5, .int 0)] [] M P) :
    E0 g YX11_judged d 33 [(0, .ref 0), (1, .int i1), (2, .int i2), (3, .int i3), (4, .int i4)] [] M P := by
  refine x_iconst (v := 0) dX11_judged_33 (by decide) ?_
  refine x_istore (lv1 := [(5, .int 0), (0, .ref 0), (1, .int i1), (2, .int i2), (3, .int i3), (4, .int i4)]) dX11_judged_34 (by decide) rfl ?_
  exact EX.sub [1, 2, 3, 4, 5, 0] k1 rfl
set_option maxRecDepth 8000 in
theorem qX11_judged_36 {g : GG} {d : Nat} {M : MM} {P : Option Value → MM → Prop} {i1 : Int32} {i2 : Int32} {i3 : Int32} {i4 : Int32} {i5 : Int32} {la lb pa pb rl : Nat} (L : Lay M la lb pa pb rl)
    (k1 : (mi M pa 0) ≤ i5 → ¬ i1 = 0 → ¬ i1 = 1 → P (some (.int i4)) M)
    (k2 : (mi M pa 0) ≤ i5 → ¬ i1 = 0 → i1 = 1 → P (some (.int i3)) M)
    (k3 : (mi M pa 0) ≤ i5 → i1 = 0 → P (some (.int i2)) M)
    (k4 : ¬ ((mi M pa 0) ≤ i5) → K0 g YX11_judged YX5_isPossible d 65 [.ref pa, .int i5, .ref la, .ref 41] [(0, .ref 0), (1, .int i1), (2, .int i2), (3, .int i3), (4, .int i4), (5, .int i5)] [] M P) :
    E0 g YX11_judged d 36 [(0, .ref 0), (1, .int i1), (2, .int i2), (3, .int i3), (4, .int i4), (5, .int i5)] [] M P := by
  have f1 : ob M 0 11 := L.s rfl (by decide)
  have f2 : mr M 0 4 = some pa := L.rpa
  have f3 : ob M pa 5 := L.ppa.o
  have f4 : mr M 0 2 = some la := L.rla
  have f5 : mr M 0 7 = some 41 := L.r 3 rfl
  refine x_iload dX11_judged_36 5 rfl ?_
  refine x_aload_n dX11_judged_38 0 rfl ?_
  refine x_getR fdX11_38 rfl dX11_judged_39 f1.1 f1.2 f2 ?_
  refine x_getI fdX11_198 rfl dX11_judged_42 f3.1 f3.2 ?_
  refine x_ic_ge 163 dX11_judged_45 (by decide) (fun c1 => ?_) (fun c1 => ?_)
  · refine x_iload_n dX11_judged_163 1 rfl ?_
    refine x_if_ne 171 dX11_judged_164 (by decide) (fun c2 => ?_) (fun c2 => ?_)
    · refine x_iload_n dX11_judged_171 1 rfl ?_
      refine x_iconst (v := 1) dX11_judged_172 (by decide) ?_
      refine x_ic_ne 180 dX11_judged_173 (by decide) (fun c3 => ?_) (fun c3 => ?_)
      · refine x_iload dX11_judged_180 4 rfl ?_
        exact x_iret rfl dX11_judged_182 (Nat.le_refl _) (Nat.le_refl _) (k1 c1 c2 c3)
      · refine x_iload_n dX11_judged_176 3 rfl ?_
        refine x_goto 182 dX11_judged_177 (by decide) ?_
        exact x_iret rfl dX11_judged_182 (Nat.le_refl _) (Nat.le_refl _) (k2 c1 c2 c3)
    · refine x_iload_n dX11_judged_167 2 rfl ?_
      refine x_goto 182 dX11_judged_168 (by decide) ?_
      exact x_iret rfl dX11_judged_182 (Nat.le_refl _) (Nat.le_refl _) (k3 c1 c2)
  · refine x_aload_n dX11_judged_48 0 rfl ?_
    refine x_getR fdX11_38 rfl dX11_judged_49 f1.1 f1.2 f2 ?_
    refine x_iload dX11_judged_52 5 rfl ?_
    refine x_aload_n dX11_judged_54 0 rfl ?_
    refine x_getR fdX11_10 rfl dX11_judged_55 f1.1 f1.2 f4 ?_
    refine x_aload_n dX11_judged_58 0 rfl ?_
    refine x_getR fdX11_52 rfl dX11_judged_59 f1.1 f1.2 f5 ?_
    refine EX.sub [0, 1, 2, 3, 4, 5] (K0.v (As := [.int i5, .ref la, .ref 41]) (st := []) cvX11_201 dX11_judged_62 rfl rfl f3 rfl (Nat.le_of_ble_eq_true rfl) (k4 c1)) rfl
set_option maxRecDepth 8000 in
theorem qX11_judged_65 {g : GG} {d : Nat} {M : MM} {P : Option Value → MM → Prop} {i1 : Int32} {i2 : Int32} {i3 : Int32} {i4 : Int32} {i5 : Int32} {s0 : Int32} {la lb pa pb rl : Nat} (L : Lay M la lb pa pb rl)
    (k1 : ¬ s0 = 0 → K0 g YX11_judged YX5_follow d 100 [.ref pa, .int i5, .ref la, .ref 41] [(0, .ref 0), (1, .int i1), (2, .int i2), (3, .int i3), (4, .int i4), (5, .int i5)] [] M P)
    (k2 : s0 = 0 → ¬ i2 = (-1) → E0 g YX11_judged d 36 [(0, .ref 0), (1, .int i1), (2, .int i2), (3, .int i3), (4, .int i4), (5, .int (i5 + 1))] [] M P)
    (k3 : s0 = 0 → i2 = (-1) → E0 g YX11_judged d 36 [(0, .ref 0), (1, .int i1), (2, .int i5), (3, .int i3), (4, .int i4), (5, .int (i5 + 1))] [] M P) :
    E0 g YX11_judged d 65 [(0, .ref 0), (1, .int i1), (2, .int i2), (3, .int i3), (4, .int i4), (5, .int i5)] [.int s0] M P := by
  have f1 : ob M 0 11 := L.s rfl (by decide)
  have f2 : mr M 0 4 = some pa := L.rpa
  have f3 : mr M 0 2 = some la := L.rla
  have f4 : mr M 0 7 = some 41 := L.r 3 rfl
  have f5 : ob M pa 5 := L.ppa.o
  refine x_if_ne 83 dX11_judged_65 (by decide) (fun c1 => ?_) (fun c1 => ?_)
  · refine x_aload_n dX11_judged_83 0 rfl ?_
    refine x_getR fdX11_38 rfl dX11_judged_84 f1.1 f1.2 f2 ?_
    refine x_iload dX11_judged_87 5 rfl ?_
    refine x_aload_n dX11_judged_89 0 rfl ?_
    refine x_getR fdX11_10 rfl dX11_judged_90 f1.1 f1.2 f3 ?_
    refine x_aload_n dX11_judged_93 0 rfl ?_
    refine x_getR fdX11_52 rfl dX11_judged_94 f1.1 f1.2 f4 ?_
    refine EX.sub [0, 1, 2, 3, 4, 5] (K0.v (As := [.int i5, .ref la, .ref 41]) (st := []) cvX11_205 dX11_judged_97 rfl rfl f5 rfl (Nat.le_of_ble_eq_true rfl) (k1 c1)) rfl
  · refine x_iload_n dX11_judged_68 2 rfl ?_
    refine x_iconst (v := (-1)) dX11_judged_69 (by decide) ?_
    refine x_ic_ne 78 dX11_judged_70 (by decide) (fun c2 => ?_) (fun c2 => ?_)
    · refine x_iload_n dX11_judged_78 2 rfl ?_
      refine x_istore_n (lv1 := [(2, .int i2), (0, .ref 0), (1, .int i1), (3, .int i3), (4, .int i4), (5, .int i5)]) dX11_judged_79 (by decide) rfl ?_
      refine x_goto 157 dX11_judged_80 (by decide) ?_
      refine x_iinc (v := (i5 + 1)) (lv1 := [(5, .int (i5 + 1)), (2, .int i2), (0, .ref 0), (1, .int i1), (3, .int i3), (4, .int i4)]) dX11_judged_157 5 rfl rfl (by decide) rfl ?_
      refine x_goto 36 dX11_judged_160 (by decide) ?_
      exact EX.sub [2, 3, 1, 4, 5, 0] (k2 c1 c2) rfl
    · refine x_iload dX11_judged_73 5 rfl ?_
      refine x_goto 79 dX11_judged_75 (by decide) ?_
      refine x_istore_n (lv1 := [(2, .int i5), (0, .ref 0), (1, .int i1), (3, .int i3), (4, .int i4), (5, .int i5)]) dX11_judged_79 (by decide) rfl ?_
      refine x_goto 157 dX11_judged_80 (by decide) ?_
      refine x_iinc (v := (i5 + 1)) (lv1 := [(5, .int (i5 + 1)), (2, .int i5), (0, .ref 0), (1, .int i1), (3, .int i3), (4, .int i4)]) dX11_judged_157 5 rfl rfl (by decide) rfl ?_
      refine x_goto 36 dX11_judged_160 (by decide) ?_
      exact EX.sub [2, 3, 1, 4, 5, 0] (k3 c1 c2) rfl
set_option maxRecDepth 8000 in
theorem qX11_judged_100 {g : GG} {d : Nat} {M : MM} {P : Option Value → MM → Prop} {i1 : Int32} {i2 : Int32} {i3 : Int32} {i4 : Int32} {i5 : Int32} {la lb pa pb rl : Nat} (L : Lay M la lb pa pb rl)
    (h1 : vp_in i5 40)
    (k1 : ¬ (mi M (pa + 1) (i5 : Int32).toNatClampNeg) = 0 → E0 g YX11_judged d 36 [(0, .ref 0), (1, .int i1), (2, .int i2), (3, .int i3), (4, .int i4), (5, .int (i5 + 1))] [] M P)
    (k2 : (mi M (pa + 1) (i5 : Int32).toNatClampNeg) = 0 → K0 g YX11_judged YX0_minutesOf d 129 [.ref la, .int (mi M 41 0)] [(0, .ref 0), (1, .int i1), (2, .int i2), (3, .int i3), (5, .int i5)] [.int i4] M P) :
    E0 g YX11_judged d 100 [(0, .ref 0), (1, .int i1), (2, .int i2), (3, .int i3), (4, .int i4), (5, .int i5)] [] M P := by
  have f1 : ob M 0 11 := L.s rfl (by decide)
  have f2 : mr M 0 4 = some pa := L.rpa
  have f3 : ob M pa 5 := L.ppa.o
  have f4 : mr M pa 1 = some (pa + 1) := L.ppa.r1
  have f5 : ar M (pa + 1) 1 40 := L.ppa.a1
  have f6 : mr M 0 2 = some la := L.rla
  have f7 : mr M 0 7 = some 41 := L.r 3 rfl
  have f8 : ob M 41 10 := L.s rfl (by decide)
  have f9 : ob M la 0 := L.cla.o
  refine x_aload_n dX11_judged_100 0 rfl ?_
  refine x_getR fdX11_38 rfl dX11_judged_101 f1.1 f1.2 f2 ?_
  refine x_getR fdX11_209 rfl dX11_judged_104 f3.1 f3.2 f4 ?_
  refine x_iload dX11_judged_107 5 rfl ?_
  refine x_iald dX11_judged_109 f5.1 f5.2 (h1) ?_
  refine x_if_ne 157 dX11_judged_110 (by decide) (fun c1 => ?_) (fun c1 => ?_)
  · refine x_iinc (v := (i5 + 1)) (lv1 := [(5, .int (i5 + 1)), (0, .ref 0), (1, .int i1), (2, .int i2), (3, .int i3), (4, .int i4)]) dX11_judged_157 5 rfl rfl (by decide) rfl ?_
    refine x_goto 36 dX11_judged_160 (by decide) ?_
    exact EX.sub [1, 2, 3, 4, 5, 0] (k1 c1) rfl
  · refine x_iload dX11_judged_113 4 rfl ?_
    refine x_aload_n dX11_judged_115 0 rfl ?_
    refine x_getR fdX11_10 rfl dX11_judged_116 f1.1 f1.2 f6 ?_
    refine x_aload_n dX11_judged_119 0 rfl ?_
    refine x_getR fdX11_52 rfl dX11_judged_120 f1.1 f1.2 f7 ?_
    refine x_getI fdX11_129 rfl dX11_judged_123 f8.1 f8.2 ?_
    refine EX.sub [0, 1, 2, 3, 5] (K0.v (As := [.int (mi M 41 0)]) (st := [.int i4]) cvX11_159 dX11_judged_126 rfl rfl f9 rfl (Nat.le_of_ble_eq_true rfl) (k2 c1)) rfl
set_option maxRecDepth 8000 in
theorem qX11_judged_129 {g : GG} {d : Nat} {M : MM} {P : Option Value → MM → Prop} {i1 : Int32} {i2 : Int32} {i3 : Int32} {i5 : Int32} {s0 : Int32} {s1 : Int32} {la lb pa pb rl : Nat} (L : Lay M la lb pa pb rl)
    (k1 : ¬ i3 = (-1) → E0 g YX11_judged d 36 [(0, .ref 0), (1, .int i1), (2, .int i2), (3, .int i3), (4, .int (s0 + s1)), (5, .int (i5 + 1))] [] M P)
    (k2 : i3 = (-1) → K0 g YX11_judged YX0_makesSense d 151 [.ref la, .int (mi M 41 0)] [(0, .ref 0), (1, .int i1), (2, .int i2), (3, .int i3), (4, .int (s0 + s1)), (5, .int i5)] [] M P) :
    E0 g YX11_judged d 129 [(0, .ref 0), (1, .int i1), (2, .int i2), (3, .int i3), (5, .int i5)] [.int s1, .int s0] M P := by
  have f1 : ob M 0 11 := L.s rfl (by decide)
  have f2 : mr M 0 2 = some la := L.rla
  have f3 : mr M 0 7 = some 41 := L.r 3 rfl
  have f4 : ob M 41 10 := L.s rfl (by decide)
  have f5 : ob M la 0 := L.cla.o
  refine x_iadd dX11_judged_129 ?_
  refine x_istore (lv1 := [(4, .int (s0 + s1)), (0, .ref 0), (1, .int i1), (2, .int i2), (3, .int i3), (5, .int i5)]) dX11_judged_130 (by decide) rfl ?_
  refine x_iload_n dX11_judged_132 4 rfl ?_
  refine x_iconst (v := (-1)) dX11_judged_133 (by decide) ?_
  refine x_ic_ne 157 dX11_judged_134 (by decide) (fun c1 => ?_) (fun c1 => ?_)
  · refine x_iinc (v := (i5 + 1)) (lv1 := [(5, .int (i5 + 1)), (4, .int (s0 + s1)), (0, .ref 0), (1, .int i1), (2, .int i2), (3, .int i3)]) dX11_judged_157 5 rfl rfl (by decide) rfl ?_
    refine x_goto 36 dX11_judged_160 (by decide) ?_
    exact EX.sub [2, 3, 4, 5, 1, 0] (k1 c1) rfl
  · refine x_aload_n dX11_judged_137 1 rfl ?_
    refine x_getR fdX11_10 rfl dX11_judged_138 f1.1 f1.2 f2 ?_
    refine x_aload_n dX11_judged_141 1 rfl ?_
    refine x_getR fdX11_52 rfl dX11_judged_142 f1.1 f1.2 f3 ?_
    refine x_getI fdX11_129 rfl dX11_judged_145 f4.1 f4.2 ?_
    refine EX.sub [1, 2, 3, 4, 0, 5] (K0.v (As := [.int (mi M 41 0)]) (st := []) cvX11_212 dX11_judged_148 rfl rfl f5 rfl (Nat.le_of_ble_eq_true rfl) (k2 c1)) rfl
set_option maxRecDepth 8000 in
theorem qX11_judged_151 {g : GG} {d : Nat} {M : MM} {P : Option Value → MM → Prop} {i1 : Int32} {i2 : Int32} {i3 : Int32} {i4 : Int32} {i5 : Int32} {s0 : Int32}
    (k1 : ¬ s0 = 0 → E0 g YX11_judged d 36 [(0, .ref 0), (1, .int i1), (2, .int i2), (3, .int i3), (4, .int i4), (5, .int (i5 + 1))] [] M P)
    (k2 : s0 = 0 → E0 g YX11_judged d 36 [(0, .ref 0), (1, .int i1), (2, .int i2), (3, .int i5), (4, .int i4), (5, .int (i5 + 1))] [] M P) :
    E0 g YX11_judged d 151 [(0, .ref 0), (1, .int i1), (2, .int i2), (3, .int i3), (4, .int i4), (5, .int i5)] [.int s0] M P := by
  refine x_if_ne 157 dX11_judged_151 (by decide) (fun c1 => ?_) (fun c1 => ?_)
  · refine x_iinc (v := (i5 + 1)) (lv1 := [(5, .int (i5 + 1)), (0, .ref 0), (1, .int i1), (2, .int i2), (3, .int i3), (4, .int i4)]) dX11_judged_157 5 rfl rfl (by decide) rfl ?_
    refine x_goto 36 dX11_judged_160 (by decide) ?_
    exact EX.sub [1, 2, 3, 4, 5, 0] (k1 c1) rfl
  · refine x_iload dX11_judged_154 5 rfl ?_
    refine x_istore_n (lv1 := [(3, .int i5), (0, .ref 0), (1, .int i1), (2, .int i2), (4, .int i4), (5, .int i5)]) dX11_judged_156 (by decide) rfl ?_
    refine x_iinc (v := (i5 + 1)) (lv1 := [(5, .int (i5 + 1)), (3, .int i5), (0, .ref 0), (1, .int i1), (2, .int i2), (4, .int i4)]) dX11_judged_157 5 rfl rfl (by decide) rfl ?_
    refine x_goto 36 dX11_judged_160 (by decide) ?_
    exact EX.sub [2, 3, 4, 1, 5, 0] (k2 c1) rfl
set_option maxRecDepth 8000 in
theorem qX11_shown_0 {g : GG} {d : Nat} {M : MM} {P : Option Value → MM → Prop} {i1 : Int32} {i2 : Int32} {la lb pa pb rl : Nat} (L : Lay M la lb pa pb rl)
    (k1 : K0 g YX11_shown YX11_rowShownAt d 5 [.ref 0, .int i1] [(0, .ref 0), (2, .int i2)] [] M P) :
    E0 g YX11_shown d 0 [(0, .ref 0), (1, .int i1), (2, .int i2)] [] M P := by
  have f1 : ob M 0 11 := L.s rfl (by decide)
  refine x_aload_n dX11_shown_0 0 rfl ?_
  refine x_iload_n dX11_shown_1 1 rfl ?_
  refine EX.sub [0, 2] (K0.v (As := [.int i1]) (st := []) cvX11_215 dX11_shown_2 rfl rfl f1 rfl (Nat.le_of_ble_eq_true rfl) (k1)) rfl
set_option maxRecDepth 8000 in
theorem qX11_shown_5 {g : GG} {d : Nat} {M : MM} {P : Option Value → MM → Prop} {i2 : Int32} {s0 : Int32} {la lb pa pb rl : Nat} (L : Lay M la lb pa pb rl)
    (k1 : ¬ s0 = (-1) → K0 g YX11_shown YX0_shotAt d 24 [.ref la, .int s0, .int i2] [] [] M P)
    (k2 : s0 = (-1) → E0 g YX11_shown d 24 [] [.int (-1)] M P) :
    E0 g YX11_shown d 5 [(0, .ref 0), (2, .int i2)] [.int s0] M P := by
  have f1 : ob M 0 11 := L.s rfl (by decide)
  have f2 : mr M 0 2 = some la := L.rla
  have f3 : ob M la 0 := L.cla.o
  refine x_istore_n (lv1 := [(3, .int s0), (0, .ref 0), (2, .int i2)]) dX11_shown_5 (by decide) rfl ?_
  refine x_iload_n dX11_shown_6 0 rfl ?_
  refine x_iconst (v := (-1)) dX11_shown_7 (by decide) ?_
  refine x_ic_ne 15 dX11_shown_8 (by decide) (fun c1 => ?_) (fun c1 => ?_)
  · refine x_aload_n dX11_shown_15 1 rfl ?_
    refine x_getR fdX11_10 rfl dX11_shown_16 f1.1 f1.2 f2 ?_
    refine x_iload_n dX11_shown_19 0 rfl ?_
    refine x_iload_n dX11_shown_20 2 rfl ?_
    refine EX.sub [] (K0.v (As := [.int s0, .int i2]) (st := []) cvX11_218 dX11_shown_21 rfl rfl f3 rfl (Nat.le_of_ble_eq_true rfl) (k1 c1)) rfl
  · refine x_iconst (v := (-1)) dX11_shown_11 (by decide) ?_
    refine x_goto 24 dX11_shown_12 (by decide) ?_
    exact EX.sub [] (k2 c1) rfl
set_option maxRecDepth 8000 in
theorem qX11_shown_24 {g : GG} {d : Nat} {M : MM} {P : Option Value → MM → Prop} {s0 : Int32}
    (k1 : P (some (.int s0)) M) :
    E0 g YX11_shown d 24 [] [.int s0] M P := by
  exact x_iret rfl dX11_shown_24 (Nat.le_refl _) (Nat.le_refl _) (k1)
set_option maxRecDepth 8000 in
theorem qX11_minutes_0 {g : GG} {d : Nat} {M : MM} {P : Option Value → MM → Prop} {i1 : Int32} {la lb pa pb rl : Nat} (L : Lay M la lb pa pb rl)
    (k1 : K0 g YX11_minutes YX11_rowShownAt d 5 [.ref 0, .int i1] [(0, .ref 0)] [] M P) :
    E0 g YX11_minutes d 0 [(0, .ref 0), (1, .int i1)] [] M P := by
  have f1 : ob M 0 11 := L.s rfl (by decide)
  refine x_aload_n dX11_minutes_0 0 rfl ?_
  refine x_iload_n dX11_minutes_1 1 rfl ?_
  refine EX.sub [0] (K0.v (As := [.int i1]) (st := []) cvX11_215 dX11_minutes_2 rfl rfl f1 rfl (Nat.le_of_ble_eq_true rfl) (k1)) rfl
set_option maxRecDepth 8000 in
theorem qX11_minutes_5 {g : GG} {d : Nat} {M : MM} {P : Option Value → MM → Prop} {s0 : Int32} {la lb pa pb rl : Nat} (L : Lay M la lb pa pb rl)
    (k1 : ¬ s0 = (-1) → K0 g YX11_minutes YX0_minutesOf d 23 [.ref la, .int s0] [] [] M P)
    (k2 : s0 = (-1) → E0 g YX11_minutes d 23 [] [.int (-1)] M P) :
    E0 g YX11_minutes d 5 [(0, .ref 0)] [.int s0] M P := by
  have f1 : ob M 0 11 := L.s rfl (by decide)
  have f2 : mr M 0 2 = some la := L.rla
  have f3 : ob M la 0 := L.cla.o
  refine x_istore_n (lv1 := [(2, .int s0), (0, .ref 0)]) dX11_minutes_5 (by decide) rfl ?_
  refine x_iload_n dX11_minutes_6 0 rfl ?_
  refine x_iconst (v := (-1)) dX11_minutes_7 (by decide) ?_
  refine x_ic_ne 15 dX11_minutes_8 (by decide) (fun c1 => ?_) (fun c1 => ?_)
  · refine x_aload_n dX11_minutes_15 1 rfl ?_
    refine x_getR fdX11_10 rfl dX11_minutes_16 f1.1 f1.2 f2 ?_
    refine x_iload_n dX11_minutes_19 0 rfl ?_
    refine EX.sub [] (K0.v (As := [.int s0]) (st := []) cvX11_159 dX11_minutes_20 rfl rfl f3 rfl (Nat.le_of_ble_eq_true rfl) (k1 c1)) rfl
  · refine x_iconst (v := (-1)) dX11_minutes_11 (by decide) ?_
    refine x_goto 23 dX11_minutes_12 (by decide) ?_
    exact EX.sub [] (k2 c1) rfl
set_option maxRecDepth 8000 in
theorem qX11_minutes_23 {g : GG} {d : Nat} {M : MM} {P : Option Value → MM → Prop} {s0 : Int32}
    (k1 : P (some (.int s0)) M) :
    E0 g YX11_minutes d 23 [] [.int s0] M P := by
  exact x_iret rfl dX11_minutes_23 (Nat.le_refl _) (Nat.le_refl _) (k1)
set_option maxRecDepth 8000 in
theorem qX11_silly_0 {g : GG} {d : Nat} {M : MM} {P : Option Value → MM → Prop}  {la lb pa pb rl : Nat} (L : Lay M la lb pa pb rl)
    (k1 : K0 g YX11_silly YX11_nextPlace d 12 [.ref 0] [(0, .ref 0), (1, .int (mi M 39 0))] [] M P) :
    E0 g YX11_silly d 0 [(0, .ref 0)] [] M P := by
  have f1 : ob M 0 11 := L.s rfl (by decide)
  have f2 : mr M 0 6 = some 39 := L.r 2 rfl
  have f3 : ob M 39 10 := L.s rfl (by decide)
  refine x_aload_n dX11_silly_0 0 rfl ?_
  refine x_getR fdX11_48 rfl dX11_silly_1 f1.1 f1.2 f2 ?_
  refine x_getI fdX11_129 rfl dX11_silly_4 f3.1 f3.2 ?_
  refine x_istore_n (lv1 := [(1, .int (mi M 39 0)), (0, .ref 0)]) dX11_silly_7 (by decide) rfl ?_
  refine x_aload_n dX11_silly_8 1 rfl ?_
  refine EX.sub [1, 0] (K0.v (As := []) (st := []) cvX11_221 dX11_silly_9 rfl rfl f1 rfl (Nat.le_of_ble_eq_true rfl) (k1)) rfl
set_option maxRecDepth 8000 in
theorem qX11_silly_12 {g : GG} {d : Nat} {M : MM} {P : Option Value → MM → Prop} {i1 : Int32} {s0 : Int32}
    (k1 : E0 g YX11_silly d 13 [(0, .ref 0), (1, .int i1), (2, .int s0)] [] M P) :
    E0 g YX11_silly d 12 [(0, .ref 0), (1, .int i1)] [.int s0] M P := by
  refine x_istore_n (lv1 := [(2, .int s0), (0, .ref 0), (1, .int i1)]) dX11_silly_12 (by decide) rfl ?_
  exact EX.sub [1, 2, 0] k1 rfl
set_option maxRecDepth 8000 in
theorem qX11_silly_13 {g : GG} {d : Nat} {M : MM} {P : Option Value → MM → Prop} {i1 : Int32} {i2 : Int32} {la lb pa pb rl : Nat} (L : Lay M la lb pa pb rl)
    (k1 : (mi M la 5) ≤ i2 → P (some (.int (-1))) M)
    (k2 : ¬ ((mi M la 5) ≤ i2) → K0 g YX11_silly YX10_swapPlace d 36 [.ref 39, .ref la, .int i2] [(0, .ref 0), (1, .int i1), (2, .int i2)] [] M P) :
    E0 g YX11_silly d 13 [(0, .ref 0), (1, .int i1), (2, .int i2)] [] M P := by
  have f1 : ob M 0 11 := L.s rfl (by decide)
  have f2 : mr M 0 2 = some la := L.rla
  have f3 : ob M la 0 := L.cla.o
  have f4 : mr M 0 6 = some 39 := L.r 2 rfl
  have f5 : ob M 39 10 := L.s rfl (by decide)
  refine x_iload_n dX11_silly_13 2 rfl ?_
  refine x_aload_n dX11_silly_14 0 rfl ?_
  refine x_getR fdX11_10 rfl dX11_silly_15 f1.1 f1.2 f2 ?_
  refine x_getI fdX11_149 rfl dX11_silly_18 f3.1 f3.2 ?_
  refine x_ic_ge 70 dX11_silly_21 (by decide) (fun c1 => ?_) (fun c1 => ?_)
  · refine x_iconst (v := (-1)) dX11_silly_70 (by decide) ?_
    exact x_iret rfl dX11_silly_71 (Nat.le_refl _) (Nat.le_refl _) (k1 c1)
  · refine x_aload_n dX11_silly_24 0 rfl ?_
    refine x_getR fdX11_48 rfl dX11_silly_25 f1.1 f1.2 f4 ?_
    refine x_aload_n dX11_silly_28 0 rfl ?_
    refine x_getR fdX11_10 rfl dX11_silly_29 f1.1 f1.2 f2 ?_
    refine x_iload_n dX11_silly_32 2 rfl ?_
    refine EX.sub [0, 1, 2] (K0.v (As := [.ref la, .int i2]) (st := []) cvX11_141 dX11_silly_33 rfl rfl f5 rfl (Nat.le_of_ble_eq_true rfl) (k2 c1)) rfl
set_option maxRecDepth 8000 in
theorem qX11_silly_36 {g : GG} {d : Nat} {M : MM} {P : Option Value → MM → Prop} {i1 : Int32} {i2 : Int32} {s0 : Int32} {la lb pa pb rl : Nat} (L : Lay M la lb pa pb rl)
    (k1 : K0 g YX11_silly YX0_takenOut d 47 [.ref la, .int s0, .int i1] [(0, .ref 0), (2, .int i2), (3, .int s0)] [.int i1] M P) :
    E0 g YX11_silly d 36 [(0, .ref 0), (1, .int i1), (2, .int i2)] [.int s0] M P := by
  have f1 : ob M 0 11 := L.s rfl (by decide)
  have f2 : mr M 0 2 = some la := L.rla
  have f3 : ob M la 0 := L.cla.o
  refine x_istore_n (lv1 := [(3, .int s0), (0, .ref 0), (1, .int i1), (2, .int i2)]) dX11_silly_36 (by decide) rfl ?_
  refine x_iload_n dX11_silly_37 2 rfl ?_
  refine x_aload_n dX11_silly_38 1 rfl ?_
  refine x_getR fdX11_10 rfl dX11_silly_39 f1.1 f1.2 f2 ?_
  refine x_iload_n dX11_silly_42 0 rfl ?_
  refine x_iload_n dX11_silly_43 2 rfl ?_
  refine EX.sub [1, 3, 0] (K0.v (As := [.int s0, .int i1]) (st := [.int i1]) cvX11_145 dX11_silly_44 rfl rfl f3 rfl (Nat.le_of_ble_eq_true rfl) (k1)) rfl
set_option maxRecDepth 8000 in
theorem qX11_silly_47 {g : GG} {d : Nat} {M : MM} {P : Option Value → MM → Prop} {i2 : Int32} {i3 : Int32} {s0 : Int32} {s1 : Int32} {la lb pa pb rl : Nat} (L : Lay M la lb pa pb rl)
    (k1 : K0 g YX11_silly YX0_makesSense d 59 [.ref la, .int (s0 &&& (s1 ^^^ (-1)))] [(0, .ref 0), (1, .int (s0 &&& (s1 ^^^ (-1)))), (2, .int i2), (3, .int i3)] [] M P) :
    E0 g YX11_silly d 47 [(0, .ref 0), (2, .int i2), (3, .int i3)] [.int s1, .int s0] M P := by
  have f1 : ob M 0 11 := L.s rfl (by decide)
  have f2 : mr M 0 2 = some la := L.rla
  have f3 : ob M la 0 := L.cla.o
  refine x_iconst (v := (-1)) dX11_silly_47 (by decide) ?_
  refine x_ixor dX11_silly_48 ?_
  refine x_iand dX11_silly_49 ?_
  refine x_istore_n (lv1 := [(1, .int (s0 &&& (s1 ^^^ (-1)))), (0, .ref 0), (2, .int i2), (3, .int i3)]) dX11_silly_50 (by decide) rfl ?_
  refine x_aload_n dX11_silly_51 1 rfl ?_
  refine x_getR fdX11_10 rfl dX11_silly_52 f1.1 f1.2 f2 ?_
  refine x_iload_n dX11_silly_55 0 rfl ?_
  refine EX.sub [1, 0, 2, 3] (K0.v (As := [.int (s0 &&& (s1 ^^^ (-1)))]) (st := []) cvX11_212 dX11_silly_56 rfl rfl f3 rfl (Nat.le_of_ble_eq_true rfl) (k1)) rfl
set_option maxRecDepth 8000 in
theorem qX11_silly_59 {g : GG} {d : Nat} {M : MM} {P : Option Value → MM → Prop} {i1 : Int32} {i2 : Int32} {i3 : Int32} {s0 : Int32}
    (k1 : ¬ s0 = 0 → E0 g YX11_silly d 13 [(0, .ref 0), (1, .int i1), (2, .int (i2 + 1))] [] M P)
    (k2 : s0 = 0 → P (some (.int i3)) M) :
    E0 g YX11_silly d 59 [(0, .ref 0), (1, .int i1), (2, .int i2), (3, .int i3)] [.int s0] M P := by
  refine x_if_ne 64 dX11_silly_59 (by decide) (fun c1 => ?_) (fun c1 => ?_)
  · refine x_iinc (v := (i2 + 1)) (lv1 := [(2, .int (i2 + 1)), (0, .ref 0), (1, .int i1), (3, .int i3)]) dX11_silly_64 2 rfl rfl (by decide) rfl ?_
    refine x_goto 13 dX11_silly_67 (by decide) ?_
    exact EX.sub [1, 2, 0] (k1 c1) rfl
  · refine x_iload_n dX11_silly_62 3 rfl ?_
    exact x_iret rfl dX11_silly_63 (Nat.le_refl _) (Nat.le_refl _) (k2 c1)
set_option maxRecDepth 8000 in
theorem qX11_lasts_0 {g : GG} {d : Nat} {M : MM} {P : Option Value → MM → Prop}  {la lb pa pb rl : Nat} (L : Lay M la lb pa pb rl)
    (k1 : K0 g YX11_lasts YX10_copy d 11 [.ref 41, .ref 39] [(0, .ref 0)] [] M P) :
    E0 g YX11_lasts d 0 [(0, .ref 0)] [] M P := by
  have f1 : ob M 0 11 := L.s rfl (by decide)
  have f2 : mr M 0 7 = some 41 := L.r 3 rfl
  have f3 : mr M 0 6 = some 39 := L.r 2 rfl
  have f4 : ob M 41 10 := L.s rfl (by decide)
  refine x_aload_n dX11_lasts_0 0 rfl ?_
  refine x_getR fdX11_52 rfl dX11_lasts_1 f1.1 f1.2 f2 ?_
  refine x_aload_n dX11_lasts_4 0 rfl ?_
  refine x_getR fdX11_48 rfl dX11_lasts_5 f1.1 f1.2 f3 ?_
  refine EX.sub [0] (K0.v (As := [.ref 39]) (st := []) cvX11_224 dX11_lasts_8 rfl rfl f4 rfl (Nat.le_of_ble_eq_true rfl) (k1)) rfl
set_option maxRecDepth 8000 in
theorem qX11_lasts_11 {g : GG} {d : Nat} {M : MM} {P : Option Value → MM → Prop} 
    (k1 : E0 g YX11_lasts d 13 [(0, .ref 0), (1, .int 0)] [] M P) :
    E0 g YX11_lasts d 11 [(0, .ref 0)] [] M P := by
  refine x_iconst (v := 0) dX11_lasts_11 (by decide) ?_
  refine x_istore_n (lv1 := [(1, .int 0), (0, .ref 0)]) dX11_lasts_12 (by decide) rfl ?_
  exact EX.sub [1, 0] k1 rfl
set_option maxRecDepth 8000 in
theorem qX11_lasts_13 {g : GG} {d : Nat} {M : MM} {P : Option Value → MM → Prop} {i1 : Int32} {la lb pa pb rl : Nat} (L : Lay M la lb pa pb rl)
    (k1 : 99 < i1 → P (some (.int (-1))) M)
    (k2 : ¬ (99 < i1) → ¬ (mi M 41 0) = 0 → ¬ (mi M la 5) = 0 → K0 g YX11_lasts YX10_showNext d 54 [.ref 41, .ref la] [(0, .ref 0), (1, .int i1)] [] M P)
    (k3 : ¬ (99 < i1) → ¬ (mi M 41 0) = 0 → (mi M la 5) = 0 → P (some (.int (-1))) M)
    (k4 : ¬ (99 < i1) → (mi M 41 0) = 0 → P (some (.int i1)) M) :
    E0 g YX11_lasts d 13 [(0, .ref 0), (1, .int i1)] [] M P := by
  have f1 : ob M 0 11 := L.s rfl (by decide)
  have f2 : mr M 0 7 = some 41 := L.r 3 rfl
  have f3 : ob M 41 10 := L.s rfl (by decide)
  have f4 : mr M 0 2 = some la := L.rla
  have f5 : ob M la 0 := L.cla.o
  refine x_iload_n dX11_lasts_13 1 rfl ?_
  refine x_bipush (v := 99) dX11_lasts_14 (by decide) ?_
  refine x_ic_gt 61 dX11_lasts_16 (by decide) (fun c1 => ?_) (fun c1 => ?_)
  · refine x_iconst (v := (-1)) dX11_lasts_61 (by decide) ?_
    exact x_iret rfl dX11_lasts_62 (Nat.le_refl _) (Nat.le_refl _) (k1 c1)
  · refine x_aload_n dX11_lasts_19 0 rfl ?_
    refine x_getR fdX11_52 rfl dX11_lasts_20 f1.1 f1.2 f2 ?_
    refine x_getI fdX11_129 rfl dX11_lasts_23 f3.1 f3.2 ?_
    refine x_if_ne 31 dX11_lasts_26 (by decide) (fun c2 => ?_) (fun c2 => ?_)
    · refine x_aload_n dX11_lasts_31 0 rfl ?_
      refine x_getR fdX11_10 rfl dX11_lasts_32 f1.1 f1.2 f4 ?_
      refine x_getI fdX11_149 rfl dX11_lasts_35 f5.1 f5.2 ?_
      refine x_if_ne 43 dX11_lasts_38 (by decide) (fun c3 => ?_) (fun c3 => ?_)
      · refine x_aload_n dX11_lasts_43 0 rfl ?_
        refine x_getR fdX11_52 rfl dX11_lasts_44 f1.1 f1.2 f2 ?_
        refine x_aload_n dX11_lasts_47 0 rfl ?_
        refine x_getR fdX11_10 rfl dX11_lasts_48 f1.1 f1.2 f4 ?_
        refine EX.sub [0, 1] (K0.v (As := [.ref la]) (st := []) cvX11_156 dX11_lasts_51 rfl rfl f3 rfl (Nat.le_of_ble_eq_true rfl) (k2 c1 c2 c3)) rfl
      · refine x_iconst (v := (-1)) dX11_lasts_41 (by decide) ?_
        exact x_iret rfl dX11_lasts_42 (Nat.le_refl _) (Nat.le_refl _) (k3 c1 c2 c3)
    · refine x_iload_n dX11_lasts_29 1 rfl ?_
      exact x_iret rfl dX11_lasts_30 (Nat.le_refl _) (Nat.le_refl _) (k4 c1 c2)
set_option maxRecDepth 8000 in
theorem qX11_lasts_54 {g : GG} {d : Nat} {M : MM} {P : Option Value → MM → Prop} {i1 : Int32} {s0 : Int32}
    (k1 : E0 g YX11_lasts d 13 [(0, .ref 0), (1, .int (i1 + 1))] [] M P) :
    E0 g YX11_lasts d 54 [(0, .ref 0), (1, .int i1)] [.int s0] M P := by
  refine x_pop dX11_lasts_54 rfl ?_
  refine x_iinc (v := (i1 + 1)) (lv1 := [(1, .int (i1 + 1)), (0, .ref 0)]) dX11_lasts_55 1 rfl rfl (by decide) rfl ?_
  refine x_goto 13 dX11_lasts_58 (by decide) ?_
  exact EX.sub [1, 0] k1 rfl
set_option maxRecDepth 8000 in
theorem qX11_sense_0 {g : GG} {d : Nat} {M : MM} {P : Option Value → MM → Prop}  {la lb pa pb rl : Nat} (L : Lay M la lb pa pb rl)
    (k1 : K0 g YX11_sense YX0_makesSense d 14 [.ref la, .int (mi M 39 0)] [] [] M P) :
    E0 g YX11_sense d 0 [(0, .ref 0)] [] M P := by
  have f1 : ob M 0 11 := L.s rfl (by decide)
  have f2 : mr M 0 2 = some la := L.rla
  have f3 : mr M 0 6 = some 39 := L.r 2 rfl
  have f4 : ob M 39 10 := L.s rfl (by decide)
  have f5 : ob M la 0 := L.cla.o
  refine x_aload_n dX11_sense_0 0 rfl ?_
  refine x_getR fdX11_10 rfl dX11_sense_1 f1.1 f1.2 f2 ?_
  refine x_aload_n dX11_sense_4 0 rfl ?_
  refine x_getR fdX11_48 rfl dX11_sense_5 f1.1 f1.2 f3 ?_
  refine x_getI fdX11_129 rfl dX11_sense_8 f4.1 f4.2 ?_
  refine EX.sub [] (K0.v (As := [.int (mi M 39 0)]) (st := []) cvX11_212 dX11_sense_11 rfl rfl f5 rfl (Nat.le_of_ble_eq_true rfl) (k1)) rfl
set_option maxRecDepth 8000 in
theorem qX11_sense_14 {g : GG} {d : Nat} {M : MM} {P : Option Value → MM → Prop} {s0 : Int32}
    (h1 : s0 &&& 1 = s0)
    (k1 : P (some (.int s0)) M) :
    E0 g YX11_sense d 14 [] [.int s0] M P := by
  exact x_zret rfl dX11_sense_14 (h1) (Nat.le_refl _) (Nat.le_refl _) (k1)
set_option maxRecDepth 8000 in
theorem qX11_gone_0 {g : GG} {d : Nat} {M : MM} {P : Option Value → MM → Prop} {i1 : Int32} {la lb pa pb rl : Nat} (L : Lay M la lb pa pb rl)
    (k1 : K0 g YX11_gone YX0_isShot d 8 [.ref la, .int i1] [(0, .ref 0), (1, .int i1)] [] M P) :
    E0 g YX11_gone d 0 [(0, .ref 0), (1, .int i1)] [] M P := by
  have f1 : ob M 0 11 := L.s rfl (by decide)
  have f2 : mr M 0 2 = some la := L.rla
  have f3 : ob M la 0 := L.cla.o
  refine x_aload_n dX11_gone_0 0 rfl ?_
  refine x_getR fdX11_10 rfl dX11_gone_1 f1.1 f1.2 f2 ?_
  refine x_iload_n dX11_gone_4 1 rfl ?_
  refine EX.sub [0, 1] (K0.v (As := [.int i1]) (st := []) cvX11_116 dX11_gone_5 rfl rfl f3 rfl (Nat.le_of_ble_eq_true rfl) (k1)) rfl
set_option maxRecDepth 8000 in
theorem qX11_gone_8 {g : GG} {d : Nat} {M : MM} {P : Option Value → MM → Prop} {i1 : Int32} {s0 : Int32} {la lb pa pb rl : Nat} (L : Lay M la lb pa pb rl)
    (k1 : ¬ s0 = 0 → K0 g YX11_gone YX11_nextPlace d 25 [.ref 0] [(0, .ref 0), (1, .int i1), (2, .int (mi M 39 0))] [] M P)
    (k2 : s0 = 0 → P (some (.int (-1))) M) :
    E0 g YX11_gone d 8 [(0, .ref 0), (1, .int i1)] [.int s0] M P := by
  have f1 : ob M 0 11 := L.s rfl (by decide)
  have f2 : mr M 0 6 = some 39 := L.r 2 rfl
  have f3 : ob M 39 10 := L.s rfl (by decide)
  refine x_if_ne 13 dX11_gone_8 (by decide) (fun c1 => ?_) (fun c1 => ?_)
  · refine x_aload_n dX11_gone_13 0 rfl ?_
    refine x_getR fdX11_48 rfl dX11_gone_14 f1.1 f1.2 f2 ?_
    refine x_getI fdX11_129 rfl dX11_gone_17 f3.1 f3.2 ?_
    refine x_istore_n (lv1 := [(2, .int (mi M 39 0)), (0, .ref 0), (1, .int i1)]) dX11_gone_20 (by decide) rfl ?_
    refine x_aload_n dX11_gone_21 1 rfl ?_
    refine EX.sub [1, 2, 0] (K0.v (As := []) (st := []) cvX11_221 dX11_gone_22 rfl rfl f1 rfl (Nat.le_of_ble_eq_true rfl) (k1 c1)) rfl
  · refine x_iconst (v := (-1)) dX11_gone_11 (by decide) ?_
    exact x_iret rfl dX11_gone_12 (Nat.le_refl _) (Nat.le_refl _) (k2 c1)
set_option maxRecDepth 8000 in
theorem qX11_gone_25 {g : GG} {d : Nat} {M : MM} {P : Option Value → MM → Prop} {i1 : Int32} {i2 : Int32} {s0 : Int32}
    (k1 : E0 g YX11_gone d 26 [(0, .ref 0), (1, .int i1), (2, .int i2), (3, .int s0)] [] M P) :
    E0 g YX11_gone d 25 [(0, .ref 0), (1, .int i1), (2, .int i2)] [.int s0] M P := by
  refine x_istore_n (lv1 := [(3, .int s0), (0, .ref 0), (1, .int i1), (2, .int i2)]) dX11_gone_25 (by decide) rfl ?_
  exact EX.sub [1, 2, 3, 0] k1 rfl
set_option maxRecDepth 8000 in
theorem qX11_gone_26 {g : GG} {d : Nat} {M : MM} {P : Option Value → MM → Prop} {i1 : Int32} {i2 : Int32} {i3 : Int32} {la lb pa pb rl : Nat} (L : Lay M la lb pa pb rl)
    (k1 : (mi M la 5) ≤ i3 → P (some (.int (-1))) M)
    (k2 : ¬ ((mi M la 5) ≤ i3) → K0 g YX11_gone YX10_swapPlace d 49 [.ref 39, .ref la, .int i3] [(0, .ref 0), (1, .int i1), (2, .int i2), (3, .int i3)] [] M P) :
    E0 g YX11_gone d 26 [(0, .ref 0), (1, .int i1), (2, .int i2), (3, .int i3)] [] M P := by
  have f1 : ob M 0 11 := L.s rfl (by decide)
  have f2 : mr M 0 2 = some la := L.rla
  have f3 : ob M la 0 := L.cla.o
  have f4 : mr M 0 6 = some 39 := L.r 2 rfl
  have f5 : ob M 39 10 := L.s rfl (by decide)
  refine x_iload_n dX11_gone_26 3 rfl ?_
  refine x_aload_n dX11_gone_27 0 rfl ?_
  refine x_getR fdX11_10 rfl dX11_gone_28 f1.1 f1.2 f2 ?_
  refine x_getI fdX11_149 rfl dX11_gone_31 f3.1 f3.2 ?_
  refine x_ic_ge 89 dX11_gone_34 (by decide) (fun c1 => ?_) (fun c1 => ?_)
  · refine x_iconst (v := (-1)) dX11_gone_89 (by decide) ?_
    exact x_iret rfl dX11_gone_90 (Nat.le_refl _) (Nat.le_refl _) (k1 c1)
  · refine x_aload_n dX11_gone_37 0 rfl ?_
    refine x_getR fdX11_48 rfl dX11_gone_38 f1.1 f1.2 f4 ?_
    refine x_aload_n dX11_gone_41 0 rfl ?_
    refine x_getR fdX11_10 rfl dX11_gone_42 f1.1 f1.2 f2 ?_
    refine x_iload_n dX11_gone_45 3 rfl ?_
    refine EX.sub [0, 1, 2, 3] (K0.v (As := [.ref la, .int i3]) (st := []) cvX11_141 dX11_gone_46 rfl rfl f5 rfl (Nat.le_of_ble_eq_true rfl) (k2 c1)) rfl
set_option maxRecDepth 8000 in
theorem qX11_gone_49 {g : GG} {d : Nat} {M : MM} {P : Option Value → MM → Prop} {i1 : Int32} {i2 : Int32} {i3 : Int32} {s0 : Int32} {la lb pa pb rl : Nat} (L : Lay M la lb pa pb rl)
    (k1 : K0 g YX11_gone YX0_takenOut d 61 [.ref la, .int s0, .int i2] [(0, .ref 0), (1, .int i1), (2, .int i2), (3, .int i3), (4, .int s0)] [] M P) :
    E0 g YX11_gone d 49 [(0, .ref 0), (1, .int i1), (2, .int i2), (3, .int i3)] [.int s0] M P := by
  have f1 : ob M 0 11 := L.s rfl (by decide)
  have f2 : mr M 0 2 = some la := L.rla
  have f3 : ob M la 0 := L.cla.o
  refine x_istore (lv1 := [(4, .int s0), (0, .ref 0), (1, .int i1), (2, .int i2), (3, .int i3)]) dX11_gone_49 (by decide) rfl ?_
  refine x_aload_n dX11_gone_51 1 rfl ?_
  refine x_getR fdX11_10 rfl dX11_gone_52 f1.1 f1.2 f2 ?_
  refine x_iload dX11_gone_55 0 rfl ?_
  refine x_iload_n dX11_gone_57 3 rfl ?_
  refine EX.sub [1, 2, 3, 4, 0] (K0.v (As := [.int s0, .int i2]) (st := []) cvX11_145 dX11_gone_58 rfl rfl f3 rfl (Nat.le_of_ble_eq_true rfl) (k1)) rfl
set_option maxRecDepth 8000 in
theorem qX11_gone_61 {g : GG} {d : Nat} {M : MM} {P : Option Value → MM → Prop} {i1 : Int32} {i2 : Int32} {i3 : Int32} {i4 : Int32} {s0 : Int32}
    (k1 : ¬ ((s0 >>> (i1 &&& 31)) &&& 1) = 1 → E0 g YX11_gone d 26 [(0, .ref 0), (1, .int i1), (2, .int (i2 &&& (s0 ^^^ (-1)))), (3, .int (i3 + 1))] [] M P)
    (k2 : ((s0 >>> (i1 &&& 31)) &&& 1) = 1 → P (some (.int i4)) M) :
    E0 g YX11_gone d 61 [(0, .ref 0), (1, .int i1), (2, .int i2), (3, .int i3), (4, .int i4)] [.int s0] M P := by
  refine x_istore (lv1 := [(5, .int s0), (0, .ref 0), (1, .int i1), (2, .int i2), (3, .int i3), (4, .int i4)]) dX11_gone_61 (by decide) rfl ?_
  refine x_iload dX11_gone_63 0 rfl ?_
  refine x_iload_n dX11_gone_65 2 rfl ?_
  refine x_ishr dX11_gone_66 ?_
  refine x_iconst (v := 1) dX11_gone_67 (by decide) ?_
  refine x_iand dX11_gone_68 ?_
  refine x_iconst (v := 1) dX11_gone_69 (by decide) ?_
  refine x_ic_ne 76 dX11_gone_70 (by decide) (fun c1 => ?_) (fun c1 => ?_)
  · refine x_iload_n dX11_gone_76 3 rfl ?_
    refine x_iload dX11_gone_77 0 rfl ?_
    refine x_iconst (v := (-1)) dX11_gone_79 (by decide) ?_
    refine x_ixor dX11_gone_80 ?_
    refine x_iand dX11_gone_81 ?_
    refine x_istore_n (lv1 := [(2, .int (i2 &&& (s0 ^^^ (-1)))), (5, .int s0), (0, .ref 0), (1, .int i1), (3, .int i3), (4, .int i4)]) dX11_gone_82 (by decide) rfl ?_
    refine x_iinc (v := (i3 + 1)) (lv1 := [(3, .int (i3 + 1)), (2, .int (i2 &&& (s0 ^^^ (-1)))), (5, .int s0), (0, .ref 0), (1, .int i1), (4, .int i4)]) dX11_gone_83 4 rfl rfl (by decide) rfl ?_
    refine x_goto 26 dX11_gone_86 (by decide) ?_
    exact EX.sub [3, 4, 1, 0] (k1 c1) rfl
  · refine x_iload dX11_gone_73 5 rfl ?_
    exact x_iret rfl dX11_gone_75 (Nat.le_refl _) (Nat.le_refl _) (k2 c1)
set_option maxRecDepth 8000 in
theorem qX11_kin_0 {g : GG} {d : Nat} {M : MM} {P : Option Value → MM → Prop} {i1 : Int32} {la lb pa pb rl : Nat} (L : Lay M la lb pa pb rl)
    (k1 : K0 g YX11_kin YX0_isShot d 8 [.ref la, .int i1] [(0, .ref 0), (1, .int i1)] [] M P) :
    E0 g YX11_kin d 0 [(0, .ref 0), (1, .int i1)] [] M P := by
  have f1 : ob M 0 11 := L.s rfl (by decide)
  have f2 : mr M 0 2 = some la := L.rla
  have f3 : ob M la 0 := L.cla.o
  refine x_aload_n dX11_kin_0 0 rfl ?_
  refine x_getR fdX11_10 rfl dX11_kin_1 f1.1 f1.2 f2 ?_
  refine x_iload_n dX11_kin_4 1 rfl ?_
  refine EX.sub [0, 1] (K0.v (As := [.int i1]) (st := []) cvX11_116 dX11_kin_5 rfl rfl f3 rfl (Nat.le_of_ble_eq_true rfl) (k1)) rfl
set_option maxRecDepth 8000 in
theorem qX11_kin_8 {g : GG} {d : Nat} {M : MM} {P : Option Value → MM → Prop} {i1 : Int32} {s0 : Int32} {la lb pa pb rl : Nat} (L : Lay M la lb pa pb rl)
    (k1 : s0 = 0 → P (some (.int (-1))) M)
    (k2 : ¬ (s0 = 0) → K0 g YX11_kin YX0_allNeeds d 19 [.ref la, .int i1] [] [] M P) :
    E0 g YX11_kin d 8 [(0, .ref 0), (1, .int i1)] [.int s0] M P := by
  have f1 : ob M 0 11 := L.s rfl (by decide)
  have f2 : mr M 0 2 = some la := L.rla
  have f3 : ob M la 0 := L.cla.o
  refine x_if_eq 22 dX11_kin_8 (by decide) (fun c1 => ?_) (fun c1 => ?_)
  · refine x_iconst (v := (-1)) dX11_kin_22 (by decide) ?_
    exact x_iret rfl dX11_kin_23 (Nat.le_refl _) (Nat.le_refl _) (k1 c1)
  · refine x_aload_n dX11_kin_11 0 rfl ?_
    refine x_getR fdX11_10 rfl dX11_kin_12 f1.1 f1.2 f2 ?_
    refine x_iload_n dX11_kin_15 1 rfl ?_
    refine EX.sub [] (K0.v (As := [.int i1]) (st := []) cvX11_240 dX11_kin_16 rfl rfl f3 rfl (Nat.le_of_ble_eq_true rfl) (k2 c1)) rfl
set_option maxRecDepth 8000 in
theorem qX11_kin_19 {g : GG} {d : Nat} {M : MM} {P : Option Value → MM → Prop} {s0 : Int32}
    (k1 : P (some (.int s0)) M) :
    E0 g YX11_kin d 19 [] [.int s0] M P := by
  refine x_goto 23 dX11_kin_19 (by decide) ?_
  exact x_iret rfl dX11_kin_23 (Nat.le_refl _) (Nat.le_refl _) (k1)
set_option maxRecDepth 8000 in
theorem qX11_hoard_0 {g : GG} {d : Nat} {M : MM} {P : Option Value → MM → Prop} {i1 : Int32} {la lb pa pb rl : Nat} (L : Lay M la lb pa pb rl)
    (k1 : i1 < 0 → P (some (.int (-1))) M)
    (k2 : ¬ (i1 < 0) → i1 < 10 → K0 g YX11_hoard YX0_shotsOfSort d 20 [.ref la, .int i1] [(0, .ref 0)] [] M P)
    (k3 : ¬ (i1 < 0) → ¬ (i1 < 10) → P (some (.int (-1))) M) :
    E0 g YX11_hoard d 0 [(0, .ref 0), (1, .int i1)] [] M P := by
  have f1 : ob M 0 11 := L.s rfl (by decide)
  have f2 : mr M 0 2 = some la := L.rla
  have f3 : ob M la 0 := L.cla.o
  refine x_iload_n dX11_hoard_0 1 rfl ?_
  refine x_if_lt 10 dX11_hoard_1 (by decide) (fun c1 => ?_) (fun c1 => ?_)
  · refine x_iconst (v := (-1)) dX11_hoard_10 (by decide) ?_
    exact x_iret rfl dX11_hoard_11 (Nat.le_refl _) (Nat.le_refl _) (k1 c1)
  · refine x_iload_n dX11_hoard_4 1 rfl ?_
    refine x_bipush (v := 10) dX11_hoard_5 (by decide) ?_
    refine x_ic_lt 12 dX11_hoard_7 (by decide) (fun c2 => ?_) (fun c2 => ?_)
    · refine x_aload_n dX11_hoard_12 0 rfl ?_
      refine x_getR fdX11_10 rfl dX11_hoard_13 f1.1 f1.2 f2 ?_
      refine x_iload_n dX11_hoard_16 1 rfl ?_
      refine EX.sub [0] (K0.v (As := [.int i1]) (st := []) cvX11_243 dX11_hoard_17 rfl rfl f3 rfl (Nat.le_of_ble_eq_true rfl) (k2 c1 c2)) rfl
    · refine x_iconst (v := (-1)) dX11_hoard_10 (by decide) ?_
      exact x_iret rfl dX11_hoard_11 (Nat.le_refl _) (Nat.le_refl _) (k3 c1 c2)
set_option maxRecDepth 8000 in
theorem qX11_hoard_20 {g : GG} {d : Nat} {M : MM} {P : Option Value → MM → Prop} {s0 : Int32}
    (k1 : E0 g YX11_hoard d 29 [(0, .ref 0), (2, .int s0), (3, .int 0), (4, .int (-1)), (5, .int 0)] [] M P) :
    E0 g YX11_hoard d 20 [(0, .ref 0)] [.int s0] M P := by
  refine x_istore_n (lv1 := [(2, .int s0), (0, .ref 0)]) dX11_hoard_20 (by decide) rfl ?_
  refine x_iconst (v := 0) dX11_hoard_21 (by decide) ?_
  refine x_istore_n (lv1 := [(3, .int 0), (2, .int s0), (0, .ref 0)]) dX11_hoard_22 (by decide) rfl ?_
  refine x_iconst (v := (-1)) dX11_hoard_23 (by decide) ?_
  refine x_istore (lv1 := [(4, .int (-1)), (3, .int 0), (2, .int s0), (0, .ref 0)]) dX11_hoard_24 (by decide) rfl ?_
  refine x_iconst (v := 0) dX11_hoard_26 (by decide) ?_
  refine x_istore (lv1 := [(5, .int 0), (4, .int (-1)), (3, .int 0), (2, .int s0), (0, .ref 0)]) dX11_hoard_27 (by decide) rfl ?_
  exact EX.sub [4, 3, 2, 1, 0] k1 rfl
set_option maxRecDepth 8000 in
theorem qX11_hoard_29 {g : GG} {d : Nat} {M : MM} {P : Option Value → MM → Prop} {i2 : Int32} {i3 : Int32} {i4 : Int32} {i5 : Int32} {la lb pa pb rl : Nat} (L : Lay M la lb pa pb rl)
    (h1 : ¬ ((mi M la 5) ≤ i5) → vp_in i5 6)
    (k1 : (mi M la 5) ≤ i5 → P (some (.int i4)) M)
    (k2 : ¬ ((mi M la 5) ≤ i5) → K0 g YX11_hoard YX0_minutesOf d 60 [.ref la, .int ((mi M 40 (i5 : Int32).toNatClampNeg) &&& i2)] [(0, .ref 0), (2, .int i2), (3, .int i3), (4, .int i4), (5, .int i5)] [] M P) :
    E0 g YX11_hoard d 29 [(0, .ref 0), (2, .int i2), (3, .int i3), (4, .int i4), (5, .int i5)] [] M P := by
  have f1 : ob M 0 11 := L.s rfl (by decide)
  have f2 : mr M 0 2 = some la := L.rla
  have f3 : ob M la 0 := L.cla.o
  have f4 : mr M 0 6 = some 39 := L.r 2 rfl
  have f5 : ob M 39 10 := L.s rfl (by decide)
  have f6 : mr M 39 1 = some 40 := L.r 43 rfl
  have f7 : ar M 40 1 6 := L.s rfl (by decide)
  refine x_iload dX11_hoard_29 4 rfl ?_
  refine x_aload_n dX11_hoard_31 0 rfl ?_
  refine x_getR fdX11_10 rfl dX11_hoard_32 f1.1 f1.2 f2 ?_
  refine x_getI fdX11_149 rfl dX11_hoard_35 f3.1 f3.2 ?_
  refine x_ic_ge 81 dX11_hoard_38 (by decide) (fun c1 => ?_) (fun c1 => ?_)
  · refine x_iload dX11_hoard_81 3 rfl ?_
    exact x_iret rfl dX11_hoard_83 (Nat.le_refl _) (Nat.le_refl _) (k1 c1)
  · refine x_aload_n dX11_hoard_41 0 rfl ?_
    refine x_getR fdX11_10 rfl dX11_hoard_42 f1.1 f1.2 f2 ?_
    refine x_aload_n dX11_hoard_45 0 rfl ?_
    refine x_getR fdX11_48 rfl dX11_hoard_46 f1.1 f1.2 f4 ?_
    refine x_getR fdX11_138 rfl dX11_hoard_49 f5.1 f5.2 f6 ?_
    refine x_iload dX11_hoard_52 4 rfl ?_
    refine x_iald dX11_hoard_54 f7.1 f7.2 (h1 c1) ?_
    refine x_iload_n dX11_hoard_55 1 rfl ?_
    refine x_iand dX11_hoard_56 ?_
    refine EX.sub [0, 1, 2, 3, 4] (K0.v (As := [.int ((mi M 40 (i5 : Int32).toNatClampNeg) &&& i2)]) (st := []) cvX11_159 dX11_hoard_57 rfl rfl f3 rfl (Nat.le_of_ble_eq_true rfl) (k2 c1)) rfl
set_option maxRecDepth 8000 in
theorem qX11_hoard_60 {g : GG} {d : Nat} {M : MM} {P : Option Value → MM → Prop} {i2 : Int32} {i3 : Int32} {i4 : Int32} {i5 : Int32} {s0 : Int32}
    (k1 : s0 ≤ i3 → E0 g YX11_hoard d 29 [(0, .ref 0), (2, .int i2), (3, .int i3), (4, .int i4), (5, .int (i5 + 1))] [] M P)
    (k2 : ¬ (s0 ≤ i3) → E0 g YX11_hoard d 29 [(0, .ref 0), (2, .int i2), (3, .int s0), (4, .int i5), (5, .int (i5 + 1))] [] M P) :
    E0 g YX11_hoard d 60 [(0, .ref 0), (2, .int i2), (3, .int i3), (4, .int i4), (5, .int i5)] [.int s0] M P := by
  refine x_istore (lv1 := [(6, .int s0), (0, .ref 0), (2, .int i2), (3, .int i3), (4, .int i4), (5, .int i5)]) dX11_hoard_60 (by decide) rfl ?_
  refine x_iload dX11_hoard_62 0 rfl ?_
  refine x_iload_n dX11_hoard_64 3 rfl ?_
  refine x_ic_le 75 dX11_hoard_65 (by decide) (fun c1 => ?_) (fun c1 => ?_)
  · refine x_iinc (v := (i5 + 1)) (lv1 := [(5, .int (i5 + 1)), (6, .int s0), (0, .ref 0), (2, .int i2), (3, .int i3), (4, .int i4)]) dX11_hoard_75 5 rfl rfl (by decide) rfl ?_
    refine x_goto 29 dX11_hoard_78 (by decide) ?_
    exact EX.sub [2, 3, 4, 5, 0] (k1 c1) rfl
  · refine x_iload dX11_hoard_68 0 rfl ?_
    refine x_istore_n (lv1 := [(3, .int s0), (6, .int s0), (0, .ref 0), (2, .int i2), (4, .int i4), (5, .int i5)]) dX11_hoard_70 (by decide) rfl ?_
    refine x_iload dX11_hoard_71 5 rfl ?_
    refine x_istore (lv1 := [(4, .int i5), (3, .int s0), (6, .int s0), (0, .ref 0), (2, .int i2), (5, .int i5)]) dX11_hoard_73 (by decide) rfl ?_
    refine x_iinc (v := (i5 + 1)) (lv1 := [(5, .int (i5 + 1)), (4, .int i5), (3, .int s0), (6, .int s0), (0, .ref 0), (2, .int i2)]) dX11_hoard_75 5 rfl rfl (by decide) rfl ?_
    refine x_goto 29 dX11_hoard_78 (by decide) ?_
    exact EX.sub [4, 5, 2, 1, 0] (k2 c1) rfl
set_option maxRecDepth 8000 in
theorem qX11_longest_0 {g : GG} {d : Nat} {M : MM} {P : Option Value → MM → Prop} 
    (k1 : E0 g YX11_longest d 4 [(0, .ref 0), (1, .int 0), (2, .int 0)] [] M P) :
    E0 g YX11_longest d 0 [(0, .ref 0)] [] M P := by
  refine x_iconst (v := 0) dX11_longest_0 (by decide) ?_
  refine x_istore_n (lv1 := [(1, .int 0), (0, .ref 0)]) dX11_longest_1 (by decide) rfl ?_
  refine x_iconst (v := 0) dX11_longest_2 (by decide) ?_
  refine x_istore_n (lv1 := [(2, .int 0), (1, .int 0), (0, .ref 0)]) dX11_longest_3 (by decide) rfl ?_
  exact EX.sub [2, 1, 0] k1 rfl
set_option maxRecDepth 8000 in
theorem qX11_longest_4 {g : GG} {d : Nat} {M : MM} {P : Option Value → MM → Prop} {i1 : Int32} {i2 : Int32} {la lb pa pb rl : Nat} (L : Lay M la lb pa pb rl)
    (k1 : (mi M la 0) ≤ i2 → P (some (.int i1)) M)
    (k2 : ¬ ((mi M la 0) ≤ i2) → K0 g YX11_longest YX0_unlikeFrom d 31 [.ref la, .int (mi M 39 0), .int i2] [(0, .ref 0), (2, .int i2)] [.int i1] M P) :
    E0 g YX11_longest d 4 [(0, .ref 0), (1, .int i1), (2, .int i2)] [] M P := by
  have f1 : ob M 0 11 := L.s rfl (by decide)
  have f2 : mr M 0 2 = some la := L.rla
  have f3 : ob M la 0 := L.cla.o
  have f4 : mr M 0 6 = some 39 := L.r 2 rfl
  have f5 : ob M 39 10 := L.s rfl (by decide)
  refine x_iload_n dX11_longest_4 2 rfl ?_
  refine x_aload_n dX11_longest_5 0 rfl ?_
  refine x_getR fdX11_10 rfl dX11_longest_6 f1.1 f1.2 f2 ?_
  refine x_getI fdX11_246 rfl dX11_longest_9 f3.1 f3.2 ?_
  refine x_ic_ge 41 dX11_longest_12 (by decide) (fun c1 => ?_) (fun c1 => ?_)
  · refine x_iload_n dX11_longest_41 1 rfl ?_
    exact x_iret rfl dX11_longest_42 (Nat.le_refl _) (Nat.le_refl _) (k1 c1)
  · refine x_iload_n dX11_longest_15 1 rfl ?_
    refine x_aload_n dX11_longest_16 0 rfl ?_
    refine x_getR fdX11_10 rfl dX11_longest_17 f1.1 f1.2 f2 ?_
    refine x_aload_n dX11_longest_20 0 rfl ?_
    refine x_getR fdX11_48 rfl dX11_longest_21 f1.1 f1.2 f4 ?_
    refine x_getI fdX11_129 rfl dX11_longest_24 f5.1 f5.2 ?_
    refine x_iload_n dX11_longest_27 2 rfl ?_
    refine EX.sub [0, 2] (K0.v (As := [.int (mi M 39 0), .int i2]) (st := [.int i1]) cvX11_249 dX11_longest_28 rfl rfl f3 rfl (Nat.le_of_ble_eq_true rfl) (k2 c1)) rfl
set_option maxRecDepth 8000 in
theorem qX11_longest_31 {g : GG} {d : Nat} {M : MM} {P : Option Value → MM → Prop} {i2 : Int32} {s0 : Int32} {s1 : Int32}
    (h1 : 1 ≤ d)
    (k1 : E0 g YX11_longest d 4 [(0, .ref 0), (1, .int (if s0 < s1 then s1 else s0)), (2, .int (i2 + 1))] [] M P) :
    E0 g YX11_longest d 31 [(0, .ref 0), (2, .int i2)] [.int s1, .int s0] M P := by
  refine x_max dX11_longest_31 mmX11_252 gk_max1 gk_math gk_max2 h1 (Nat.le_refl _) (Nat.le_refl _) (Nat.le_of_ble_eq_true rfl) ?_
  refine x_istore_n (lv1 := [(1, .int (if s0 < s1 then s1 else s0)), (0, .ref 0), (2, .int i2)]) dX11_longest_34 (by decide) rfl ?_
  refine x_iinc (v := (i2 + 1)) (lv1 := [(2, .int (i2 + 1)), (1, .int (if s0 < s1 then s1 else s0)), (0, .ref 0)]) dX11_longest_35 2 rfl rfl (by decide) rfl ?_
  refine x_goto 4 dX11_longest_38 (by decide) ?_
  exact EX.sub [2, 1, 0] k1 rfl
set_option maxRecDepth 8000 in
theorem qX11_order_0 {g : GG} {d : Nat} {M : MM} {P : Option Value → MM → Prop} {i1 : Int32} {la lb pa pb rl : Nat} (L : Lay M la lb pa pb rl)
    (k1 : K0 g YX11_order YX11_nextPlace d 11 [.ref 0] [(0, .ref 0), (1, .int i1)] [.int (mi M la 5)] M P) :
    E0 g YX11_order d 0 [(0, .ref 0), (1, .int i1)] [] M P := by
  have f1 : ob M 0 11 := L.s rfl (by decide)
  have f2 : mr M 0 2 = some la := L.rla
  have f3 : ob M la 0 := L.cla.o
  refine x_aload_n dX11_order_0 0 rfl ?_
  refine x_getR fdX11_10 rfl dX11_order_1 f1.1 f1.2 f2 ?_
  refine x_getI fdX11_149 rfl dX11_order_4 f3.1 f3.2 ?_
  refine x_aload_n dX11_order_7 0 rfl ?_
  refine EX.sub [0, 1] (K0.v (As := []) (st := [.int (mi M la 5)]) cvX11_221 dX11_order_8 rfl rfl f1 rfl (Nat.le_of_ble_eq_true rfl) (k1)) rfl
set_option maxRecDepth 8000 in
theorem qX11_order_11 {g : GG} {d : Nat} {M : MM} {P : Option Value → MM → Prop} {i1 : Int32} {s0 : Int32} {s1 : Int32} {la lb pa pb rl : Nat} (L : Lay M la lb pa pb rl)
    (k1 : i1 < (-1) → P (some (.int (-2))) M)
    (k2 : ¬ (i1 < (-1)) → i1 < (s0 - s1) → K0 g YX11_order YX11_hallsAhead d 38 [.ref 0] [(0, .ref 0), (1, .int i1)] [.ref la, .ref 125] M P)
    (k3 : ¬ (i1 < (-1)) → ¬ (i1 < (s0 - s1)) → P (some (.int (-2))) M) :
    E0 g YX11_order d 11 [(0, .ref 0), (1, .int i1)] [.int s1, .int s0] M P := by
  have f1 : ob M 0 11 := L.s rfl (by decide)
  have f2 : mr M 0 11 = some 125 := L.r 7 rfl
  have f3 : mr M 0 2 = some la := L.rla
  refine x_isub dX11_order_11 ?_
  refine x_istore_n (lv1 := [(2, .int (s0 - s1)), (0, .ref 0), (1, .int i1)]) dX11_order_12 (by decide) rfl ?_
  refine x_iload_n dX11_order_13 2 rfl ?_
  refine x_iconst (v := (-1)) dX11_order_14 (by decide) ?_
  refine x_ic_lt 23 dX11_order_15 (by decide) (fun c1 => ?_) (fun c1 => ?_)
  · refine x_bipush (v := (-2)) dX11_order_23 (by decide) ?_
    exact x_iret rfl dX11_order_25 (Nat.le_refl _) (Nat.le_refl _) (k1 c1)
  · refine x_iload_n dX11_order_18 2 rfl ?_
    refine x_iload_n dX11_order_19 0 rfl ?_
    refine x_ic_lt 26 dX11_order_20 (by decide) (fun c2 => ?_) (fun c2 => ?_)
    · refine x_aload_n dX11_order_26 1 rfl ?_
      refine x_getR fdX11_79 rfl dX11_order_27 f1.1 f1.2 f2 ?_
      refine x_aload_n dX11_order_30 1 rfl ?_
      refine x_getR fdX11_10 rfl dX11_order_31 f1.1 f1.2 f3 ?_
      refine x_aload_n dX11_order_34 1 rfl ?_
      refine EX.sub [1, 2] (K0.v (As := []) (st := [.ref la, .ref 125]) cvX11_257 dX11_order_35 rfl rfl f1 rfl (Nat.le_of_ble_eq_true rfl) (k2 c1 c2)) rfl
    · refine x_bipush (v := (-2)) dX11_order_23 (by decide) ?_
      exact x_iret rfl dX11_order_25 (Nat.le_refl _) (Nat.le_refl _) (k3 c1 c2)
set_option maxRecDepth 8000 in
theorem qX11_order_38 {g : GG} {d : Nat} {M : MM} {P : Option Value → MM → Prop} {i1 : Int32} {s0 : Nat} {s1 : Nat} {s2 : Int32} {la lb pa pb rl : Nat} (L : Lay M la lb pa pb rl)
    (h1 : ob M s0 6)
    (k1 : K0 g YX11_order YX6_find d 48 [.ref s0, .ref s1, .int s2, .int (mi M 39 0)] [(0, .ref 0), (1, .int i1)] [] M P) :
    E0 g YX11_order d 38 [(0, .ref 0), (1, .int i1)] [.int s2, .ref s1, .ref s0] M P := by
  have f1 : ob M 0 11 := L.s rfl (by decide)
  have f2 : mr M 0 6 = some 39 := L.r 2 rfl
  have f3 : ob M 39 10 := L.s rfl (by decide)
  refine x_aload_n dX11_order_38 0 rfl ?_
  refine x_getR fdX11_48 rfl dX11_order_39 f1.1 f1.2 f2 ?_
  refine x_getI fdX11_129 rfl dX11_order_42 f3.1 f3.2 ?_
  refine EX.sub [0, 1] (K0.v (As := [.ref s1, .int s2, .int (mi M 39 0)]) (st := []) cvX11_260 dX11_order_45 rfl rfl h1 rfl (Nat.le_of_ble_eq_true rfl) (k1)) rfl
set_option maxRecDepth 8000 in
theorem qX11_order_48 {g : GG} {d : Nat} {M : MM} {P : Option Value → MM → Prop} {i1 : Int32} {la lb pa pb rl : Nat} (L : Lay M la lb pa pb rl)
    (h1 : ¬ i1 = (-1) → vp_in i1 6)
    (k1 : ¬ i1 = (-1) → P (some (.int (mi M 127 (i1 : Int32).toNatClampNeg))) M)
    (k2 : i1 = (-1) → P (some (.int (mi M 125 2))) M) :
    E0 g YX11_order d 48 [(0, .ref 0), (1, .int i1)] [] M P := by
  have f1 : ob M 0 11 := L.s rfl (by decide)
  have f2 : mr M 0 11 = some 125 := L.r 7 rfl
  have f3 : ob M 125 6 := L.s rfl (by decide)
  have f4 : mr M 125 1 = some 127 := L.r 125 rfl
  have f5 : ar M 127 1 6 := L.s rfl (by decide)
  refine x_iload_n dX11_order_48 1 rfl ?_
  refine x_iconst (v := (-1)) dX11_order_49 (by decide) ?_
  refine x_ic_ne 63 dX11_order_50 (by decide) (fun c1 => ?_) (fun c1 => ?_)
  · refine x_aload_n dX11_order_63 0 rfl ?_
    refine x_getR fdX11_79 rfl dX11_order_64 f1.1 f1.2 f2 ?_
    refine x_getR fdX11_267 rfl dX11_order_67 f3.1 f3.2 f4 ?_
    refine x_iload_n dX11_order_70 1 rfl ?_
    refine x_iald dX11_order_71 f5.1 f5.2 (h1 c1) ?_
    exact x_iret rfl dX11_order_72 (Nat.le_refl _) (Nat.le_refl _) (k1 c1)
  · refine x_aload_n dX11_order_53 0 rfl ?_
    refine x_getR fdX11_79 rfl dX11_order_54 f1.1 f1.2 f2 ?_
    refine x_getI fdX11_264 rfl dX11_order_57 f3.1 f3.2 ?_
    refine x_goto 72 dX11_order_60 (by decide) ?_
    exact x_iret rfl dX11_order_72 (Nat.le_refl _) (Nat.le_refl _) (k2 c1)
set_option maxRecDepth 8000 in
theorem qX11_ride_0 {g : GG} {d : Nat} {M : MM} {P : Option Value → MM → Prop}  {la lb pa pb rl : Nat} (L : Lay M la lb pa pb rl)
    (k1 : K0 g YX11_ride YX11_fillRows d 4 [.ref 0] [(0, .ref 0)] [] M P) :
    E0 g YX11_ride d 0 [(0, .ref 0)] [] M P := by
  have f1 : ob M 0 11 := L.s rfl (by decide)
  refine x_aload_n dX11_ride_0 0 rfl ?_
  refine EX.sub [0] (K0.v (As := []) (st := []) cvX11_270 dX11_ride_1 rfl rfl f1 rfl (Nat.le_of_ble_eq_true rfl) (k1)) rfl
set_option maxRecDepth 8000 in
theorem qX11_ride_4 {g : GG} {d : Nat} {M : MM} {P : Option Value → MM → Prop}  {la lb pa pb rl : Nat} (L : Lay M la lb pa pb rl)
    (k1 : K0 g YX11_ride YX0_film d 11 [.ref la] [(0, .ref 0)] [] M P) :
    E0 g YX11_ride d 4 [(0, .ref 0)] [] M P := by
  have f1 : ob M 0 11 := L.s rfl (by decide)
  have f2 : mr M 0 2 = some la := L.rla
  have f3 : ob M la 0 := L.cla.o
  refine x_aload_n dX11_ride_4 0 rfl ?_
  refine x_getR fdX11_10 rfl dX11_ride_5 f1.1 f1.2 f2 ?_
  refine EX.sub [0] (K0.v (As := []) (st := []) cvX11_191 dX11_ride_8 rfl rfl f3 rfl (Nat.le_of_ble_eq_true rfl) (k1)) rfl
set_option maxRecDepth 8000 in
theorem qX11_ride_11 {g : GG} {d : Nat} {M : MM} {P : Option Value → MM → Prop} {s0 : Int32}
    (k1 : E0 g YX11_ride d 16 [(0, .ref 0), (1, .int s0), (2, .int (-1)), (3, .int 0)] [] M P) :
    E0 g YX11_ride d 11 [(0, .ref 0)] [.int s0] M P := by
  refine x_istore_n (lv1 := [(1, .int s0), (0, .ref 0)]) dX11_ride_11 (by decide) rfl ?_
  refine x_iconst (v := (-1)) dX11_ride_12 (by decide) ?_
  refine x_istore_n (lv1 := [(2, .int (-1)), (1, .int s0), (0, .ref 0)]) dX11_ride_13 (by decide) rfl ?_
  refine x_iconst (v := 0) dX11_ride_14 (by decide) ?_
  refine x_istore_n (lv1 := [(3, .int 0), (2, .int (-1)), (1, .int s0), (0, .ref 0)]) dX11_ride_15 (by decide) rfl ?_
  exact EX.sub [3, 2, 1, 0] k1 rfl
set_option maxRecDepth 8000 in
theorem qX11_ride_16 {g : GG} {d : Nat} {M : MM} {P : Option Value → MM → Prop} {i1 : Int32} {i2 : Int32} {i3 : Int32} {la lb pa pb rl : Nat} (L : Lay M la lb pa pb rl)
    (k1 : ((1 : Int32) <<< ((mi M la 5) &&& 31)) ≤ i3 → P (some (.int i2)) M)
    (k2 : ¬ (((1 : Int32) <<< ((mi M la 5) &&& 31)) ≤ i3) → i2 = (-1) → K0 g YX11_ride YX11_seenBy d 62 [.ref 0, .int i3] [(0, .ref 0), (1, .int i1), (2, .int i2), (3, .int i3)] [] M P)
    (k3 : ¬ (((1 : Int32) <<< ((mi M la 5) &&& 31)) ≤ i3) → ¬ (i2 = (-1)) → K0 g YX11_ride YJ6_bitCount_0f7a4 d 38 [.int i3] [(0, .ref 0), (1, .int i1), (2, .int i2), (3, .int i3)] [] M P) :
    E0 g YX11_ride d 16 [(0, .ref 0), (1, .int i1), (2, .int i2), (3, .int i3)] [] M P := by
  have f1 : ob M 0 11 := L.s rfl (by decide)
  have f2 : mr M 0 2 = some la := L.rla
  have f3 : ob M la 0 := L.cla.o
  refine x_iload_n dX11_ride_16 3 rfl ?_
  refine x_iconst (v := 1) dX11_ride_17 (by decide) ?_
  refine x_aload_n dX11_ride_18 0 rfl ?_
  refine x_getR fdX11_10 rfl dX11_ride_19 f1.1 f1.2 f2 ?_
  refine x_getI fdX11_149 rfl dX11_ride_22 f3.1 f3.2 ?_
  refine x_ishl dX11_ride_25 ?_
  refine x_ic_ge 74 dX11_ride_26 (by decide) (fun c1 => ?_) (fun c1 => ?_)
  · refine x_iload_n dX11_ride_74 2 rfl ?_
    exact x_iret rfl dX11_ride_75 (Nat.le_refl _) (Nat.le_refl _) (k1 c1)
  · refine x_iload_n dX11_ride_29 2 rfl ?_
    refine x_iconst (v := (-1)) dX11_ride_30 (by decide) ?_
    refine x_ic_eq 45 dX11_ride_31 (by decide) (fun c2 => ?_) (fun c2 => ?_)
    · refine x_iconst (v := 1) dX11_ride_45 (by decide) ?_
      refine x_goto 50 dX11_ride_46 (by decide) ?_
      refine x_istore (lv1 := [(4, .int 1), (0, .ref 0), (1, .int i1), (2, .int i2), (3, .int i3)]) dX11_ride_50 (by decide) rfl ?_
      refine x_iload dX11_ride_52 0 rfl ?_
      refine x_if_eq 68 dX11_ride_54 (by decide) (fun cz => absurd cz (by decide)) (fun _ => ?_)
      refine x_aload_n dX11_ride_57 1 rfl ?_
      refine x_iload_n dX11_ride_58 4 rfl ?_
      refine EX.sub [1, 2, 3, 4] (K0.v (As := [.int i3]) (st := []) cvX11_273 dX11_ride_59 rfl rfl f1 rfl (Nat.le_of_ble_eq_true rfl) (k2 c1 c2)) rfl
    · refine x_iload_n dX11_ride_34 3 rfl ?_
      refine EX.sub [0, 1, 2, 3] (K0.s (As := [.int i3]) (st := []) csX11_171 dX11_ride_35 rfl rfl (Nat.le_of_ble_eq_true rfl) (k3 c1 c2)) rfl
set_option maxRecDepth 8000 in
theorem qX11_ride_38 {g : GG} {d : Nat} {M : MM} {P : Option Value → MM → Prop} {i1 : Int32} {i2 : Int32} {i3 : Int32} {s0 : Int32}
    (k1 : K0 g YX11_ride YJ6_bitCount_0f7a4 d 42 [.int i2] [(0, .ref 0), (1, .int i1), (2, .int i2), (3, .int i3)] [.int s0] M P) :
    E0 g YX11_ride d 38 [(0, .ref 0), (1, .int i1), (2, .int i2), (3, .int i3)] [.int s0] M P := by
  refine x_iload_n dX11_ride_38 2 rfl ?_
  refine EX.sub [0, 1, 2, 3] (K0.s (As := [.int i2]) (st := [.int s0]) csX11_171 dX11_ride_39 rfl rfl (Nat.le_of_ble_eq_true rfl) (k1)) rfl
set_option maxRecDepth 8000 in
theorem qX11_ride_42 {g : GG} {d : Nat} {M : MM} {P : Option Value → MM → Prop} {i1 : Int32} {i2 : Int32} {i3 : Int32} {s0 : Int32} {s1 : Int32} {la lb pa pb rl : Nat} (L : Lay M la lb pa pb rl)
    (k1 : s1 ≤ s0 → E0 g YX11_ride d 16 [(0, .ref 0), (1, .int i1), (2, .int i2), (3, .int (i3 + 1))] [] M P)
    (k2 : ¬ (s1 ≤ s0) → K0 g YX11_ride YX11_seenBy d 62 [.ref 0, .int i3] [(0, .ref 0), (1, .int i1), (2, .int i2), (3, .int i3)] [] M P) :
    E0 g YX11_ride d 42 [(0, .ref 0), (1, .int i1), (2, .int i2), (3, .int i3)] [.int s1, .int s0] M P := by
  have f1 : ob M 0 11 := L.s rfl (by decide)
  refine x_ic_ge 49 dX11_ride_42 (by decide) (fun c1 => ?_) (fun c1 => ?_)
  · refine x_iconst (v := 0) dX11_ride_49 (by decide) ?_
    refine x_istore (lv1 := [(4, .int 0), (0, .ref 0), (1, .int i1), (2, .int i2), (3, .int i3)]) dX11_ride_50 (by decide) rfl ?_
    refine x_iload dX11_ride_52 0 rfl ?_
    refine x_if_eq 68 dX11_ride_54 (by decide) (fun _ => ?_) (fun cz => absurd cz (by decide))
    refine x_iinc (v := (i3 + 1)) (lv1 := [(3, .int (i3 + 1)), (4, .int 0), (0, .ref 0), (1, .int i1), (2, .int i2)]) dX11_ride_68 4 rfl rfl (by decide) rfl ?_
    refine x_goto 16 dX11_ride_71 (by decide) ?_
    exact EX.sub [2, 3, 4, 0] (k1 c1) rfl
  · refine x_iconst (v := 1) dX11_ride_45 (by decide) ?_
    refine x_goto 50 dX11_ride_46 (by decide) ?_
    refine x_istore (lv1 := [(4, .int 1), (0, .ref 0), (1, .int i1), (2, .int i2), (3, .int i3)]) dX11_ride_50 (by decide) rfl ?_
    refine x_iload dX11_ride_52 0 rfl ?_
    refine x_if_eq 68 dX11_ride_54 (by decide) (fun cz => absurd cz (by decide)) (fun _ => ?_)
    refine x_aload_n dX11_ride_57 1 rfl ?_
    refine x_iload_n dX11_ride_58 4 rfl ?_
    refine EX.sub [1, 2, 3, 4] (K0.v (As := [.int i3]) (st := []) cvX11_273 dX11_ride_59 rfl rfl f1 rfl (Nat.le_of_ble_eq_true rfl) (k2 c1)) rfl
set_option maxRecDepth 8000 in
theorem qX11_ride_62 {g : GG} {d : Nat} {M : MM} {P : Option Value → MM → Prop} {i1 : Int32} {i2 : Int32} {i3 : Int32} {s0 : Int32}
    (k1 : ¬ s0 = i1 → E0 g YX11_ride d 16 [(0, .ref 0), (1, .int i1), (2, .int i2), (3, .int (i3 + 1))] [] M P)
    (k2 : s0 = i1 → E0 g YX11_ride d 16 [(0, .ref 0), (1, .int i1), (2, .int i3), (3, .int (i3 + 1))] [] M P) :
    E0 g YX11_ride d 62 [(0, .ref 0), (1, .int i1), (2, .int i2), (3, .int i3)] [.int s0] M P := by
  refine x_iload_n dX11_ride_62 1 rfl ?_
  refine x_ic_ne 68 dX11_ride_63 (by decide) (fun c1 => ?_) (fun c1 => ?_)
  · refine x_iinc (v := (i3 + 1)) (lv1 := [(3, .int (i3 + 1)), (0, .ref 0), (1, .int i1), (2, .int i2)]) dX11_ride_68 3 rfl rfl (by decide) rfl ?_
    refine x_goto 16 dX11_ride_71 (by decide) ?_
    exact EX.sub [1, 2, 3, 0] (k1 c1) rfl
  · refine x_iload_n dX11_ride_66 3 rfl ?_
    refine x_istore_n (lv1 := [(2, .int i3), (0, .ref 0), (1, .int i1), (3, .int i3)]) dX11_ride_67 (by decide) rfl ?_
    refine x_iinc (v := (i3 + 1)) (lv1 := [(3, .int (i3 + 1)), (2, .int i3), (0, .ref 0), (1, .int i1)]) dX11_ride_68 3 rfl rfl (by decide) rfl ?_
    refine x_goto 16 dX11_ride_71 (by decide) ?_
    exact EX.sub [2, 3, 1, 0] (k2 c1) rfl
set_option maxRecDepth 8000 in
theorem qX11_other_0 {g : GG} {d : Nat} {M : MM} {P : Option Value → MM → Prop} {i1 : Int32} {la lb pa pb rl : Nat} (L : Lay M la lb pa pb rl)
    (k1 : i1 = 0 → K0 g YX11_other YX10_drawn d 18 [.ref 39] [(0, .ref 0), (1, .int i1)] [] M P)
    (k2 : ¬ (i1 = 0) → i1 = 1 → K0 g YX11_other YX10_drawn d 18 [.ref 39] [(0, .ref 0), (1, .int i1)] [] M P)
    (k3 : ¬ (i1 = 0) → ¬ (i1 = 1) → P (some (.int (-1))) M) :
    E0 g YX11_other d 0 [(0, .ref 0), (1, .int i1)] [] M P := by
  have f1 : ob M 0 11 := L.s rfl (by decide)
  have f2 : mr M 0 6 = some 39 := L.r 2 rfl
  have f3 : ob M 39 10 := L.s rfl (by decide)
  refine x_iload_n dX11_other_0 1 rfl ?_
  refine x_if_eq 11 dX11_other_1 (by decide) (fun c1 => ?_) (fun c1 => ?_)
  · refine x_aload_n dX11_other_11 0 rfl ?_
    refine x_getR fdX11_48 rfl dX11_other_12 f1.1 f1.2 f2 ?_
    refine EX.sub [0, 1] (K0.v (As := []) (st := []) cvX11_276 dX11_other_15 rfl rfl f3 rfl (Nat.le_of_ble_eq_true rfl) (k1 c1)) rfl
  · refine x_iload_n dX11_other_4 1 rfl ?_
    refine x_iconst (v := 1) dX11_other_5 (by decide) ?_
    refine x_ic_eq 11 dX11_other_6 (by decide) (fun c2 => ?_) (fun c2 => ?_)
    · refine x_aload_n dX11_other_11 0 rfl ?_
      refine x_getR fdX11_48 rfl dX11_other_12 f1.1 f1.2 f2 ?_
      refine EX.sub [0, 1] (K0.v (As := []) (st := []) cvX11_276 dX11_other_15 rfl rfl f3 rfl (Nat.le_of_ble_eq_true rfl) (k2 c1 c2)) rfl
    · refine x_iconst (v := (-1)) dX11_other_9 (by decide) ?_
      exact x_iret rfl dX11_other_10 (Nat.le_refl _) (Nat.le_refl _) (k3 c1 c2)
set_option maxRecDepth 8000 in
theorem qX11_other_18 {g : GG} {d : Nat} {M : MM} {P : Option Value → MM → Prop} {i1 : Int32} {s0 : Int32}
    (k1 : E0 g YX11_other d 24 [(0, .ref 0), (1, .int i1), (2, .int s0), (3, .int 0), (4, .int 0)] [] M P) :
    E0 g YX11_other d 18 [(0, .ref 0), (1, .int i1)] [.int s0] M P := by
  refine x_istore_n (lv1 := [(2, .int s0), (0, .ref 0), (1, .int i1)]) dX11_other_18 (by decide) rfl ?_
  refine x_iconst (v := 0) dX11_other_19 (by decide) ?_
  refine x_istore_n (lv1 := [(3, .int 0), (2, .int s0), (0, .ref 0), (1, .int i1)]) dX11_other_20 (by decide) rfl ?_
  refine x_iconst (v := 0) dX11_other_21 (by decide) ?_
  refine x_istore (lv1 := [(4, .int 0), (3, .int 0), (2, .int s0), (0, .ref 0), (1, .int i1)]) dX11_other_22 (by decide) rfl ?_
  exact EX.sub [3, 4, 2, 1, 0] k1 rfl
set_option maxRecDepth 8000 in
theorem qX11_other_24 {g : GG} {d : Nat} {M : MM} {P : Option Value → MM → Prop} {i1 : Int32} {i2 : Int32} {i3 : Int32} {i4 : Int32} {la lb pa pb rl : Nat} (L : Lay M la lb pa pb rl)
    (k1 : i2 < i4 → ¬ i1 = 0 → P (some (.int i3)) M)
    (k2 : i2 < i4 → i1 = 0 → K0 g YX11_other YX0_minutesOf d 85 [.ref la, .int i3] [] [] M P)
    (k3 : ¬ (i2 < i4) → ¬ (i4 &&& (i2 ^^^ (-1))) = 0 → E0 g YX11_other d 24 [(0, .ref 0), (1, .int i1), (2, .int i2), (3, .int i3), (4, .int (i4 + 1))] [] M P)
    (k4 : ¬ (i2 < i4) → (i4 &&& (i2 ^^^ (-1))) = 0 → K0 g YX11_other YX0_makesSense d 48 [.ref la, .int i4] [(0, .ref 0), (1, .int i1), (2, .int i2), (3, .int i3), (4, .int i4)] [] M P) :
    E0 g YX11_other d 24 [(0, .ref 0), (1, .int i1), (2, .int i2), (3, .int i3), (4, .int i4)] [] M P := by
  have f1 : ob M 0 11 := L.s rfl (by decide)
  have f2 : mr M 0 2 = some la := L.rla
  have f3 : ob M la 0 := L.cla.o
  refine x_iload dX11_other_24 4 rfl ?_
  refine x_iload_n dX11_other_26 2 rfl ?_
  refine x_ic_gt 73 dX11_other_27 (by decide) (fun c1 => ?_) (fun c1 => ?_)
  · refine x_iload_n dX11_other_73 1 rfl ?_
    refine x_if_ne 88 dX11_other_74 (by decide) (fun c2 => ?_) (fun c2 => ?_)
    · refine x_iload_n dX11_other_88 3 rfl ?_
      exact x_iret rfl dX11_other_89 (Nat.le_refl _) (Nat.le_refl _) (k1 c1 c2)
    · refine x_aload_n dX11_other_77 0 rfl ?_
      refine x_getR fdX11_10 rfl dX11_other_78 f1.1 f1.2 f2 ?_
      refine x_iload_n dX11_other_81 3 rfl ?_
      refine EX.sub [] (K0.v (As := [.int i3]) (st := []) cvX11_159 dX11_other_82 rfl rfl f3 rfl (Nat.le_of_ble_eq_true rfl) (k2 c1 c2)) rfl
  · refine x_iload dX11_other_30 4 rfl ?_
    refine x_iload_n dX11_other_32 2 rfl ?_
    refine x_iconst (v := (-1)) dX11_other_33 (by decide) ?_
    refine x_ixor dX11_other_34 ?_
    refine x_iand dX11_other_35 ?_
    refine x_if_ne 67 dX11_other_36 (by decide) (fun c2 => ?_) (fun c2 => ?_)
    · refine x_iinc (v := (i4 + 1)) (lv1 := [(4, .int (i4 + 1)), (0, .ref 0), (1, .int i1), (2, .int i2), (3, .int i3)]) dX11_other_67 4 rfl rfl (by decide) rfl ?_
      refine x_goto 24 dX11_other_70 (by decide) ?_
      exact EX.sub [1, 2, 3, 4, 0] (k3 c1 c2) rfl
    · refine x_aload_n dX11_other_39 0 rfl ?_
      refine x_getR fdX11_10 rfl dX11_other_40 f1.1 f1.2 f2 ?_
      refine x_iload dX11_other_43 4 rfl ?_
      refine EX.sub [0, 1, 2, 3, 4] (K0.v (As := [.int i4]) (st := []) cvX11_212 dX11_other_45 rfl rfl f3 rfl (Nat.le_of_ble_eq_true rfl) (k4 c1 c2)) rfl
set_option maxRecDepth 8000 in
theorem qX11_other_48 {g : GG} {d : Nat} {M : MM} {P : Option Value → MM → Prop} {i1 : Int32} {i2 : Int32} {i3 : Int32} {i4 : Int32} {s0 : Int32} {la lb pa pb rl : Nat} (L : Lay M la lb pa pb rl)
    (k1 : s0 = 0 → E0 g YX11_other d 24 [(0, .ref 0), (1, .int i1), (2, .int i2), (3, .int i3), (4, .int (i4 + 1))] [] M P)
    (k2 : ¬ (s0 = 0) → K0 g YX11_other YX0_isLonger d 61 [.ref la, .int i4, .int i3] [(0, .ref 0), (1, .int i1), (2, .int i2), (3, .int i3), (4, .int i4)] [] M P) :
    E0 g YX11_other d 48 [(0, .ref 0), (1, .int i1), (2, .int i2), (3, .int i3), (4, .int i4)] [.int s0] M P := by
  have f1 : ob M 0 11 := L.s rfl (by decide)
  have f2 : mr M 0 2 = some la := L.rla
  have f3 : ob M la 0 := L.cla.o
  refine x_if_eq 67 dX11_other_48 (by decide) (fun c1 => ?_) (fun c1 => ?_)
  · refine x_iinc (v := (i4 + 1)) (lv1 := [(4, .int (i4 + 1)), (0, .ref 0), (1, .int i1), (2, .int i2), (3, .int i3)]) dX11_other_67 4 rfl rfl (by decide) rfl ?_
    refine x_goto 24 dX11_other_70 (by decide) ?_
    exact EX.sub [1, 2, 3, 4, 0] (k1 c1) rfl
  · refine x_aload_n dX11_other_51 0 rfl ?_
    refine x_getR fdX11_10 rfl dX11_other_52 f1.1 f1.2 f2 ?_
    refine x_iload dX11_other_55 4 rfl ?_
    refine x_iload_n dX11_other_57 3 rfl ?_
    refine EX.sub [0, 1, 2, 3, 4] (K0.v (As := [.int i4, .int i3]) (st := []) cvX11_279 dX11_other_58 rfl rfl f3 rfl (Nat.le_of_ble_eq_true rfl) (k2 c1)) rfl
set_option maxRecDepth 8000 in
theorem qX11_other_61 {g : GG} {d : Nat} {M : MM} {P : Option Value → MM → Prop} {i1 : Int32} {i2 : Int32} {i3 : Int32} {i4 : Int32} {s0 : Int32}
    (k1 : s0 = 0 → E0 g YX11_other d 24 [(0, .ref 0), (1, .int i1), (2, .int i2), (3, .int i3), (4, .int (i4 + 1))] [] M P)
    (k2 : ¬ (s0 = 0) → E0 g YX11_other d 24 [(0, .ref 0), (1, .int i1), (2, .int i2), (3, .int i4), (4, .int (i4 + 1))] [] M P) :
    E0 g YX11_other d 61 [(0, .ref 0), (1, .int i1), (2, .int i2), (3, .int i3), (4, .int i4)] [.int s0] M P := by
  refine x_if_eq 67 dX11_other_61 (by decide) (fun c1 => ?_) (fun c1 => ?_)
  · refine x_iinc (v := (i4 + 1)) (lv1 := [(4, .int (i4 + 1)), (0, .ref 0), (1, .int i1), (2, .int i2), (3, .int i3)]) dX11_other_67 4 rfl rfl (by decide) rfl ?_
    refine x_goto 24 dX11_other_70 (by decide) ?_
    exact EX.sub [1, 2, 3, 4, 0] (k1 c1) rfl
  · refine x_iload dX11_other_64 4 rfl ?_
    refine x_istore_n (lv1 := [(3, .int i4), (0, .ref 0), (1, .int i1), (2, .int i2), (4, .int i4)]) dX11_other_66 (by decide) rfl ?_
    refine x_iinc (v := (i4 + 1)) (lv1 := [(4, .int (i4 + 1)), (3, .int i4), (0, .ref 0), (1, .int i1), (2, .int i2)]) dX11_other_67 4 rfl rfl (by decide) rfl ?_
    refine x_goto 24 dX11_other_70 (by decide) ?_
    exact EX.sub [2, 3, 4, 1, 0] (k2 c1) rfl
set_option maxRecDepth 8000 in
theorem qX11_other_85 {g : GG} {d : Nat} {M : MM} {P : Option Value → MM → Prop} {s0 : Int32}
    (k1 : P (some (.int s0)) M) :
    E0 g YX11_other d 85 [] [.int s0] M P := by
  refine x_goto 89 dX11_other_85 (by decide) ?_
  exact x_iret rfl dX11_other_89 (Nat.le_refl _) (Nat.le_refl _) (k1)
set_option maxRecDepth 8000 in
theorem qX11_mends_0 {g : GG} {d : Nat} {M : MM} {P : Option Value → MM → Prop}  {la lb pa pb rl : Nat} (L : Lay M la lb pa pb rl)
    (k1 : K0 g YX11_mends YX10_drawn d 7 [.ref 39] [(0, .ref 0)] [] M P) :
    E0 g YX11_mends d 0 [(0, .ref 0)] [] M P := by
  have f1 : ob M 0 11 := L.s rfl (by decide)
  have f2 : mr M 0 6 = some 39 := L.r 2 rfl
  have f3 : ob M 39 10 := L.s rfl (by decide)
  refine x_aload_n dX11_mends_0 0 rfl ?_
  refine x_getR fdX11_48 rfl dX11_mends_1 f1.1 f1.2 f2 ?_
  refine EX.sub [0] (K0.v (As := []) (st := []) cvX11_276 dX11_mends_4 rfl rfl f3 rfl (Nat.le_of_ble_eq_true rfl) (k1)) rfl
set_option maxRecDepth 8000 in
theorem qX11_mends_7 {g : GG} {d : Nat} {M : MM} {P : Option Value → MM → Prop} {s0 : Int32}
    (k1 : E0 g YX11_mends d 12 [(0, .ref 0), (1, .int s0), (2, .int (-1)), (3, .int 0)] [] M P) :
    E0 g YX11_mends d 7 [(0, .ref 0)] [.int s0] M P := by
  refine x_istore_n (lv1 := [(1, .int s0), (0, .ref 0)]) dX11_mends_7 (by decide) rfl ?_
  refine x_iconst (v := (-1)) dX11_mends_8 (by decide) ?_
  refine x_istore_n (lv1 := [(2, .int (-1)), (1, .int s0), (0, .ref 0)]) dX11_mends_9 (by decide) rfl ?_
  refine x_iconst (v := 0) dX11_mends_10 (by decide) ?_
  refine x_istore_n (lv1 := [(3, .int 0), (2, .int (-1)), (1, .int s0), (0, .ref 0)]) dX11_mends_11 (by decide) rfl ?_
  exact EX.sub [3, 2, 1, 0] k1 rfl
set_option maxRecDepth 8000 in
theorem qX11_mends_12 {g : GG} {d : Nat} {M : MM} {P : Option Value → MM → Prop} {i1 : Int32} {i2 : Int32} {i3 : Int32} {la lb pa pb rl : Nat} (L : Lay M la lb pa pb rl)
    (k1 : i1 < i3 → P (some (.int i2)) M)
    (k2 : ¬ (i1 < i3) → i2 = (-1) → ¬ (i3 &&& (i1 ^^^ (-1))) = 0 → E0 g YX11_mends d 12 [(0, .ref 0), (1, .int i1), (2, .int i2), (3, .int (i3 + 1))] [] M P)
    (k3 : ¬ (i1 < i3) → i2 = (-1) → (i3 &&& (i1 ^^^ (-1))) = 0 → K0 g YX11_mends YX0_makesSense d 69 [.ref la, .int ((mi M 39 0) ||| i3)] [(0, .ref 0), (1, .int i1), (2, .int i2), (3, .int i3)] [] M P)
    (k4 : ¬ (i1 < i3) → ¬ (i2 = (-1)) → K0 g YX11_mends YJ6_bitCount_0f7a4 d 26 [.int i3] [(0, .ref 0), (1, .int i1), (2, .int i2), (3, .int i3)] [] M P) :
    E0 g YX11_mends d 12 [(0, .ref 0), (1, .int i1), (2, .int i2), (3, .int i3)] [] M P := by
  have f1 : ob M 0 11 := L.s rfl (by decide)
  have f2 : mr M 0 2 = some la := L.rla
  have f3 : mr M 0 6 = some 39 := L.r 2 rfl
  have f4 : ob M 39 10 := L.s rfl (by decide)
  have f5 : ob M la 0 := L.cla.o
  refine x_iload_n dX11_mends_12 3 rfl ?_
  refine x_iload_n dX11_mends_13 1 rfl ?_
  refine x_ic_gt 80 dX11_mends_14 (by decide) (fun c1 => ?_) (fun c1 => ?_)
  · refine x_iload_n dX11_mends_80 2 rfl ?_
    exact x_iret rfl dX11_mends_81 (Nat.le_refl _) (Nat.le_refl _) (k1 c1)
  · refine x_iload_n dX11_mends_17 2 rfl ?_
    refine x_iconst (v := (-1)) dX11_mends_18 (by decide) ?_
    refine x_ic_eq 33 dX11_mends_19 (by decide) (fun c2 => ?_) (fun c2 => ?_)
    · refine x_iconst (v := 1) dX11_mends_33 (by decide) ?_
      refine x_goto 38 dX11_mends_34 (by decide) ?_
      refine x_istore (lv1 := [(4, .int 1), (0, .ref 0), (1, .int i1), (2, .int i2), (3, .int i3)]) dX11_mends_38 (by decide) rfl ?_
      refine x_iload dX11_mends_40 0 rfl ?_
      refine x_if_eq 74 dX11_mends_42 (by decide) (fun cz => absurd cz (by decide)) (fun _ => ?_)
      refine x_iload_n dX11_mends_45 4 rfl ?_
      refine x_iload_n dX11_mends_46 2 rfl ?_
      refine x_iconst (v := (-1)) dX11_mends_47 (by decide) ?_
      refine x_ixor dX11_mends_48 ?_
      refine x_iand dX11_mends_49 ?_
      refine x_if_ne 74 dX11_mends_50 (by decide) (fun c3 => ?_) (fun c3 => ?_)
      · refine x_iinc (v := (i3 + 1)) (lv1 := [(3, .int (i3 + 1)), (4, .int 1), (0, .ref 0), (1, .int i1), (2, .int i2)]) dX11_mends_74 4 rfl rfl (by decide) rfl ?_
        refine x_goto 12 dX11_mends_77 (by decide) ?_
        exact EX.sub [2, 3, 4, 0] (k2 c1 c2 c3) rfl
      · refine x_aload_n dX11_mends_53 1 rfl ?_
        refine x_getR fdX11_10 rfl dX11_mends_54 f1.1 f1.2 f2 ?_
        refine x_aload_n dX11_mends_57 1 rfl ?_
        refine x_getR fdX11_48 rfl dX11_mends_58 f1.1 f1.2 f3 ?_
        refine x_getI fdX11_129 rfl dX11_mends_61 f4.1 f4.2 ?_
        refine x_iload_n dX11_mends_64 4 rfl ?_
        refine x_ior dX11_mends_65 ?_
        refine EX.sub [1, 2, 3, 4] (K0.v (As := [.int ((mi M 39 0) ||| i3)]) (st := []) cvX11_212 dX11_mends_66 rfl rfl f5 rfl (Nat.le_of_ble_eq_true rfl) (k3 c1 c2 c3)) rfl
    · refine x_iload_n dX11_mends_22 3 rfl ?_
      refine EX.sub [0, 1, 2, 3] (K0.s (As := [.int i3]) (st := []) csX11_171 dX11_mends_23 rfl rfl (Nat.le_of_ble_eq_true rfl) (k4 c1 c2)) rfl
set_option maxRecDepth 8000 in
theorem qX11_mends_26 {g : GG} {d : Nat} {M : MM} {P : Option Value → MM → Prop} {i1 : Int32} {i2 : Int32} {i3 : Int32} {s0 : Int32}
    (k1 : K0 g YX11_mends YJ6_bitCount_0f7a4 d 30 [.int i2] [(0, .ref 0), (1, .int i1), (2, .int i2), (3, .int i3)] [.int s0] M P) :
    E0 g YX11_mends d 26 [(0, .ref 0), (1, .int i1), (2, .int i2), (3, .int i3)] [.int s0] M P := by
  refine x_iload_n dX11_mends_26 2 rfl ?_
  refine EX.sub [0, 1, 2, 3] (K0.s (As := [.int i2]) (st := [.int s0]) csX11_171 dX11_mends_27 rfl rfl (Nat.le_of_ble_eq_true rfl) (k1)) rfl
set_option maxRecDepth 8000 in
theorem qX11_mends_30 {g : GG} {d : Nat} {M : MM} {P : Option Value → MM → Prop} {i1 : Int32} {i2 : Int32} {i3 : Int32} {s0 : Int32} {s1 : Int32} {la lb pa pb rl : Nat} (L : Lay M la lb pa pb rl)
    (k1 : s1 ≤ s0 → E0 g YX11_mends d 12 [(0, .ref 0), (1, .int i1), (2, .int i2), (3, .int (i3 + 1))] [] M P)
    (k2 : ¬ (s1 ≤ s0) → ¬ (i3 &&& (i1 ^^^ (-1))) = 0 → E0 g YX11_mends d 12 [(0, .ref 0), (1, .int i1), (2, .int i2), (3, .int (i3 + 1))] [] M P)
    (k3 : ¬ (s1 ≤ s0) → (i3 &&& (i1 ^^^ (-1))) = 0 → K0 g YX11_mends YX0_makesSense d 69 [.ref la, .int ((mi M 39 0) ||| i3)] [(0, .ref 0), (1, .int i1), (2, .int i2), (3, .int i3)] [] M P) :
    E0 g YX11_mends d 30 [(0, .ref 0), (1, .int i1), (2, .int i2), (3, .int i3)] [.int s1, .int s0] M P := by
  have f1 : ob M 0 11 := L.s rfl (by decide)
  have f2 : mr M 0 2 = some la := L.rla
  have f3 : mr M 0 6 = some 39 := L.r 2 rfl
  have f4 : ob M 39 10 := L.s rfl (by decide)
  have f5 : ob M la 0 := L.cla.o
  refine x_ic_ge 37 dX11_mends_30 (by decide) (fun c1 => ?_) (fun c1 => ?_)
  · refine x_iconst (v := 0) dX11_mends_37 (by decide) ?_
    refine x_istore (lv1 := [(4, .int 0), (0, .ref 0), (1, .int i1), (2, .int i2), (3, .int i3)]) dX11_mends_38 (by decide) rfl ?_
    refine x_iload dX11_mends_40 0 rfl ?_
    refine x_if_eq 74 dX11_mends_42 (by decide) (fun _ => ?_) (fun cz => absurd cz (by decide))
    refine x_iinc (v := (i3 + 1)) (lv1 := [(3, .int (i3 + 1)), (4, .int 0), (0, .ref 0), (1, .int i1), (2, .int i2)]) dX11_mends_74 4 rfl rfl (by decide) rfl ?_
    refine x_goto 12 dX11_mends_77 (by decide) ?_
    exact EX.sub [2, 3, 4, 0] (k1 c1) rfl
  · refine x_iconst (v := 1) dX11_mends_33 (by decide) ?_
    refine x_goto 38 dX11_mends_34 (by decide) ?_
    refine x_istore (lv1 := [(4, .int 1), (0, .ref 0), (1, .int i1), (2, .int i2), (3, .int i3)]) dX11_mends_38 (by decide) rfl ?_
    refine x_iload dX11_mends_40 0 rfl ?_
    refine x_if_eq 74 dX11_mends_42 (by decide) (fun cz => absurd cz (by decide)) (fun _ => ?_)
    refine x_iload_n dX11_mends_45 4 rfl ?_
    refine x_iload_n dX11_mends_46 2 rfl ?_
    refine x_iconst (v := (-1)) dX11_mends_47 (by decide) ?_
    refine x_ixor dX11_mends_48 ?_
    refine x_iand dX11_mends_49 ?_
    refine x_if_ne 74 dX11_mends_50 (by decide) (fun c2 => ?_) (fun c2 => ?_)
    · refine x_iinc (v := (i3 + 1)) (lv1 := [(3, .int (i3 + 1)), (4, .int 1), (0, .ref 0), (1, .int i1), (2, .int i2)]) dX11_mends_74 4 rfl rfl (by decide) rfl ?_
      refine x_goto 12 dX11_mends_77 (by decide) ?_
      exact EX.sub [2, 3, 4, 0] (k2 c1 c2) rfl
    · refine x_aload_n dX11_mends_53 1 rfl ?_
      refine x_getR fdX11_10 rfl dX11_mends_54 f1.1 f1.2 f2 ?_
      refine x_aload_n dX11_mends_57 1 rfl ?_
      refine x_getR fdX11_48 rfl dX11_mends_58 f1.1 f1.2 f3 ?_
      refine x_getI fdX11_129 rfl dX11_mends_61 f4.1 f4.2 ?_
      refine x_iload_n dX11_mends_64 4 rfl ?_
      refine x_ior dX11_mends_65 ?_
      refine EX.sub [1, 2, 3, 4] (K0.v (As := [.int ((mi M 39 0) ||| i3)]) (st := []) cvX11_212 dX11_mends_66 rfl rfl f5 rfl (Nat.le_of_ble_eq_true rfl) (k3 c1 c2)) rfl
set_option maxRecDepth 8000 in
theorem qX11_mends_69 {g : GG} {d : Nat} {M : MM} {P : Option Value → MM → Prop} {i1 : Int32} {i2 : Int32} {i3 : Int32} {s0 : Int32}
    (k1 : s0 = 0 → E0 g YX11_mends d 12 [(0, .ref 0), (1, .int i1), (2, .int i2), (3, .int (i3 + 1))] [] M P)
    (k2 : ¬ (s0 = 0) → E0 g YX11_mends d 12 [(0, .ref 0), (1, .int i1), (2, .int i3), (3, .int (i3 + 1))] [] M P) :
    E0 g YX11_mends d 69 [(0, .ref 0), (1, .int i1), (2, .int i2), (3, .int i3)] [.int s0] M P := by
  refine x_if_eq 74 dX11_mends_69 (by decide) (fun c1 => ?_) (fun c1 => ?_)
  · refine x_iinc (v := (i3 + 1)) (lv1 := [(3, .int (i3 + 1)), (0, .ref 0), (1, .int i1), (2, .int i2)]) dX11_mends_74 3 rfl rfl (by decide) rfl ?_
    refine x_goto 12 dX11_mends_77 (by decide) ?_
    exact EX.sub [1, 2, 3, 0] (k1 c1) rfl
  · refine x_iload_n dX11_mends_72 3 rfl ?_
    refine x_istore_n (lv1 := [(2, .int i3), (0, .ref 0), (1, .int i1), (3, .int i3)]) dX11_mends_73 (by decide) rfl ?_
    refine x_iinc (v := (i3 + 1)) (lv1 := [(3, .int (i3 + 1)), (2, .int i3), (0, .ref 0), (1, .int i1)]) dX11_mends_74 3 rfl rfl (by decide) rfl ?_
    refine x_goto 12 dX11_mends_77 (by decide) ?_
    exact EX.sub [2, 3, 1, 0] (k2 c1) rfl
set_option maxRecDepth 8000 in
theorem qX11_where_0 {g : GG} {d : Nat} {M : MM} {P : Option Value → MM → Prop} {i1 : Int32} {la lb pa pb rl : Nat} (L : Lay M la lb pa pb rl)
    (k1 : K0 g YX11_where YX0_isShot d 8 [.ref la, .int i1] [(0, .ref 0), (1, .int i1)] [] M P) :
    E0 g YX11_where d 0 [(0, .ref 0), (1, .int i1)] [] M P := by
  have f1 : ob M 0 11 := L.s rfl (by decide)
  have f2 : mr M 0 2 = some la := L.rla
  have f3 : ob M la 0 := L.cla.o
  refine x_aload_n dX11_where_0 0 rfl ?_
  refine x_getR fdX11_10 rfl dX11_where_1 f1.1 f1.2 f2 ?_
  refine x_iload_n dX11_where_4 1 rfl ?_
  refine EX.sub [0, 1] (K0.v (As := [.int i1]) (st := []) cvX11_116 dX11_where_5 rfl rfl f3 rfl (Nat.le_of_ble_eq_true rfl) (k1)) rfl
set_option maxRecDepth 8000 in
theorem qX11_where_8 {g : GG} {d : Nat} {M : MM} {P : Option Value → MM → Prop} {i1 : Int32} {s0 : Int32} {la lb pa pb rl : Nat} (L : Lay M la lb pa pb rl)
    (k1 : s0 = 0 → P (some (.int (-1))) M)
    (k2 : ¬ (s0 = 0) → K0 g YX11_where YX10_holderOf d 19 [.ref 39, .int i1] [] [] M P) :
    E0 g YX11_where d 8 [(0, .ref 0), (1, .int i1)] [.int s0] M P := by
  have f1 : ob M 0 11 := L.s rfl (by decide)
  have f2 : mr M 0 6 = some 39 := L.r 2 rfl
  have f3 : ob M 39 10 := L.s rfl (by decide)
  refine x_if_eq 22 dX11_where_8 (by decide) (fun c1 => ?_) (fun c1 => ?_)
  · refine x_iconst (v := (-1)) dX11_where_22 (by decide) ?_
    exact x_iret rfl dX11_where_23 (Nat.le_refl _) (Nat.le_refl _) (k1 c1)
  · refine x_aload_n dX11_where_11 0 rfl ?_
    refine x_getR fdX11_48 rfl dX11_where_12 f1.1 f1.2 f2 ?_
    refine x_iload_n dX11_where_15 1 rfl ?_
    refine EX.sub [] (K0.v (As := [.int i1]) (st := []) cvX11_282 dX11_where_16 rfl rfl f3 rfl (Nat.le_of_ble_eq_true rfl) (k2 c1)) rfl
set_option maxRecDepth 8000 in
theorem qX11_where_19 {g : GG} {d : Nat} {M : MM} {P : Option Value → MM → Prop} {s0 : Int32}
    (k1 : P (some (.int s0)) M) :
    E0 g YX11_where d 19 [] [.int s0] M P := by
  refine x_goto 23 dX11_where_19 (by decide) ?_
  exact x_iret rfl dX11_where_23 (Nat.le_refl _) (Nat.le_refl _) (k1)
set_option maxRecDepth 8000 in
theorem qX11_taste_0 {g : GG} {d : Nat} {M : MM} {P : Option Value → MM → Prop} {i1 : Int32} {i2 : Int32} {la lb pa pb rl : Nat} (L : Lay M la lb pa pb rl)
    (k1 : K0 g YX11_taste YX0_isHall d 8 [.ref la, .int i1] [(0, .ref 0), (1, .int i1), (2, .int i2)] [] M P) :
    E0 g YX11_taste d 0 [(0, .ref 0), (1, .int i1), (2, .int i2)] [] M P := by
  have f1 : ob M 0 11 := L.s rfl (by decide)
  have f2 : mr M 0 2 = some la := L.rla
  have f3 : ob M la 0 := L.cla.o
  refine x_aload_n dX11_taste_0 0 rfl ?_
  refine x_getR fdX11_10 rfl dX11_taste_1 f1.1 f1.2 f2 ?_
  refine x_iload_n dX11_taste_4 1 rfl ?_
  refine EX.sub [0, 1, 2] (K0.v (As := [.int i1]) (st := []) cvX11_132 dX11_taste_5 rfl rfl f3 rfl (Nat.le_of_ble_eq_true rfl) (k1)) rfl
set_option maxRecDepth 8000 in
theorem qX11_taste_8 {g : GG} {d : Nat} {M : MM} {P : Option Value → MM → Prop} {i1 : Int32} {i2 : Int32} {s0 : Int32} {la lb pa pb rl : Nat} (L : Lay M la lb pa pb rl)
    (k1 : s0 = 0 → P (some (.int (-1))) M)
    (k2 : ¬ (s0 = 0) → K0 g YX11_taste YX0_isHall d 19 [.ref la, .int i2] [(0, .ref 0), (1, .int i1), (2, .int i2)] [] M P) :
    E0 g YX11_taste d 8 [(0, .ref 0), (1, .int i1), (2, .int i2)] [.int s0] M P := by
  have f1 : ob M 0 11 := L.s rfl (by decide)
  have f2 : mr M 0 2 = some la := L.rla
  have f3 : ob M la 0 := L.cla.o
  refine x_if_eq 27 dX11_taste_8 (by decide) (fun c1 => ?_) (fun c1 => ?_)
  · refine x_iconst (v := (-1)) dX11_taste_27 (by decide) ?_
    exact x_iret rfl dX11_taste_28 (Nat.le_refl _) (Nat.le_refl _) (k1 c1)
  · refine x_aload_n dX11_taste_11 0 rfl ?_
    refine x_getR fdX11_10 rfl dX11_taste_12 f1.1 f1.2 f2 ?_
    refine x_iload_n dX11_taste_15 2 rfl ?_
    refine EX.sub [0, 1, 2] (K0.v (As := [.int i2]) (st := []) cvX11_132 dX11_taste_16 rfl rfl f3 rfl (Nat.le_of_ble_eq_true rfl) (k2 c1)) rfl
set_option maxRecDepth 8000 in
theorem qX11_taste_19 {g : GG} {d : Nat} {M : MM} {P : Option Value → MM → Prop} {i1 : Int32} {i2 : Int32} {s0 : Int32}
    (k1 : s0 = 0 → P (some (.int (-1))) M)
    (k2 : ¬ (s0 = 0) → ¬ i1 = i2 → E0 g YX11_taste d 34 [(0, .ref 0), (1, .int i1), (2, .int i2), (3, .int 0), (4, .int 0)] [] M P)
    (k3 : ¬ (s0 = 0) → i1 = i2 → P (some (.int (-1))) M) :
    E0 g YX11_taste d 19 [(0, .ref 0), (1, .int i1), (2, .int i2)] [.int s0] M P := by
  refine x_if_eq 27 dX11_taste_19 (by decide) (fun c1 => ?_) (fun c1 => ?_)
  · refine x_iconst (v := (-1)) dX11_taste_27 (by decide) ?_
    exact x_iret rfl dX11_taste_28 (Nat.le_refl _) (Nat.le_refl _) (k1 c1)
  · refine x_iload_n dX11_taste_22 1 rfl ?_
    refine x_iload_n dX11_taste_23 2 rfl ?_
    refine x_ic_ne 29 dX11_taste_24 (by decide) (fun c2 => ?_) (fun c2 => ?_)
    · refine x_iconst (v := 0) dX11_taste_29 (by decide) ?_
      refine x_istore_n (lv1 := [(3, .int 0), (0, .ref 0), (1, .int i1), (2, .int i2)]) dX11_taste_30 (by decide) rfl ?_
      refine x_iconst (v := 0) dX11_taste_31 (by decide) ?_
      refine x_istore (lv1 := [(4, .int 0), (3, .int 0), (0, .ref 0), (1, .int i1), (2, .int i2)]) dX11_taste_32 (by decide) rfl ?_
      exact EX.sub [2, 3, 4, 1, 0] (k2 c1 c2) rfl
    · refine x_iconst (v := (-1)) dX11_taste_27 (by decide) ?_
      exact x_iret rfl dX11_taste_28 (Nat.le_refl _) (Nat.le_refl _) (k3 c1 c2)
set_option maxRecDepth 8000 in
theorem qX11_taste_34 {g : GG} {d : Nat} {M : MM} {P : Option Value → MM → Prop} {i1 : Int32} {i2 : Int32} {i3 : Int32} {i4 : Int32} {la lb pa pb rl : Nat} (L : Lay M la lb pa pb rl)
    (k1 : (mi M la 0) ≤ i4 → P (some (.int i3)) M)
    (k2 : ¬ ((mi M la 0) ≤ i4) → K0 g YX11_taste YX0_hatedIn d 58 [.ref la, .int i1, .int ((1 : Int32) <<< (i4 &&& 31))] [(0, .ref 0), (1, .int i1), (2, .int i2), (3, .int i3), (4, .int i4)] [] M P) :
    E0 g YX11_taste d 34 [(0, .ref 0), (1, .int i1), (2, .int i2), (3, .int i3), (4, .int i4)] [] M P := by
  have f1 : ob M 0 11 := L.s rfl (by decide)
  have f2 : mr M 0 2 = some la := L.rla
  have f3 : ob M la 0 := L.cla.o
  refine x_iload dX11_taste_34 4 rfl ?_
  refine x_aload_n dX11_taste_36 0 rfl ?_
  refine x_getR fdX11_10 rfl dX11_taste_37 f1.1 f1.2 f2 ?_
  refine x_getI fdX11_246 rfl dX11_taste_40 f3.1 f3.2 ?_
  refine x_ic_ge 82 dX11_taste_43 (by decide) (fun c1 => ?_) (fun c1 => ?_)
  · refine x_iload_n dX11_taste_82 3 rfl ?_
    exact x_iret rfl dX11_taste_83 (Nat.le_refl _) (Nat.le_refl _) (k1 c1)
  · refine x_aload_n dX11_taste_46 0 rfl ?_
    refine x_getR fdX11_10 rfl dX11_taste_47 f1.1 f1.2 f2 ?_
    refine x_iload_n dX11_taste_50 1 rfl ?_
    refine x_iconst (v := 1) dX11_taste_51 (by decide) ?_
    refine x_iload dX11_taste_52 4 rfl ?_
    refine x_ishl dX11_taste_54 ?_
    refine EX.sub [0, 1, 2, 3, 4] (K0.v (As := [.int i1, .int ((1 : Int32) <<< (i4 &&& 31))]) (st := []) cvX11_285 dX11_taste_55 rfl rfl f3 rfl (Nat.le_of_ble_eq_true rfl) (k2 c1)) rfl
set_option maxRecDepth 8000 in
theorem qX11_taste_58 {g : GG} {d : Nat} {M : MM} {P : Option Value → MM → Prop} {i1 : Int32} {i2 : Int32} {i3 : Int32} {i4 : Int32} {s0 : Int32} {la lb pa pb rl : Nat} (L : Lay M la lb pa pb rl)
    (k1 : K0 g YX11_taste YX0_hatedIn d 70 [.ref la, .int i2, .int ((1 : Int32) <<< (i4 &&& 31))] [(0, .ref 0), (1, .int i1), (2, .int i2), (3, .int i3), (4, .int i4)] [.int s0] M P) :
    E0 g YX11_taste d 58 [(0, .ref 0), (1, .int i1), (2, .int i2), (3, .int i3), (4, .int i4)] [.int s0] M P := by
  have f1 : ob M 0 11 := L.s rfl (by decide)
  have f2 : mr M 0 2 = some la := L.rla
  have f3 : ob M la 0 := L.cla.o
  refine x_aload_n dX11_taste_58 0 rfl ?_
  refine x_getR fdX11_10 rfl dX11_taste_59 f1.1 f1.2 f2 ?_
  refine x_iload_n dX11_taste_62 2 rfl ?_
  refine x_iconst (v := 1) dX11_taste_63 (by decide) ?_
  refine x_iload dX11_taste_64 4 rfl ?_
  refine x_ishl dX11_taste_66 ?_
  refine EX.sub [0, 1, 2, 3, 4] (K0.v (As := [.int i2, .int ((1 : Int32) <<< (i4 &&& 31))]) (st := [.int s0]) cvX11_285 dX11_taste_67 rfl rfl f3 rfl (Nat.le_of_ble_eq_true rfl) (k1)) rfl
set_option maxRecDepth 8000 in
theorem qX11_taste_70 {g : GG} {d : Nat} {M : MM} {P : Option Value → MM → Prop} {i1 : Int32} {i2 : Int32} {i3 : Int32} {i4 : Int32} {s0 : Int32} {s1 : Int32}
    (k1 : ¬ s0 = s1 → E0 g YX11_taste d 34 [(0, .ref 0), (1, .int i1), (2, .int i2), (3, .int i3), (4, .int (i4 + 1))] [] M P)
    (k2 : s0 = s1 → E0 g YX11_taste d 34 [(0, .ref 0), (1, .int i1), (2, .int i2), (3, .int (i3 + 1)), (4, .int (i4 + 1))] [] M P) :
    E0 g YX11_taste d 70 [(0, .ref 0), (1, .int i1), (2, .int i2), (3, .int i3), (4, .int i4)] [.int s1, .int s0] M P := by
  refine x_ic_ne 76 dX11_taste_70 (by decide) (fun c1 => ?_) (fun c1 => ?_)
  · refine x_iinc (v := (i4 + 1)) (lv1 := [(4, .int (i4 + 1)), (0, .ref 0), (1, .int i1), (2, .int i2), (3, .int i3)]) dX11_taste_76 4 rfl rfl (by decide) rfl ?_
    refine x_goto 34 dX11_taste_79 (by decide) ?_
    exact EX.sub [1, 2, 3, 4, 0] (k1 c1) rfl
  · refine x_iinc (v := (i3 + 1)) (lv1 := [(3, .int (i3 + 1)), (0, .ref 0), (1, .int i1), (2, .int i2), (4, .int i4)]) dX11_taste_73 3 rfl rfl (by decide) rfl ?_
    refine x_iinc (v := (i4 + 1)) (lv1 := [(4, .int (i4 + 1)), (3, .int (i3 + 1)), (0, .ref 0), (1, .int i1), (2, .int i2)]) dX11_taste_76 4 rfl rfl (by decide) rfl ?_
    refine x_goto 34 dX11_taste_79 (by decide) ?_
    exact EX.sub [2, 3, 4, 1, 0] (k2 c1) rfl
set_option maxRecDepth 8000 in
theorem qX11_mild_0 {g : GG} {d : Nat} {M : MM} {P : Option Value → MM → Prop} 
    (k1 : E0 g YX11_mild d 6 [(0, .ref 0), (1, .int 0), (2, .int (-1)), (3, .int 0)] [] M P) :
    E0 g YX11_mild d 0 [(0, .ref 0)] [] M P := by
  refine x_iconst (v := 0) dX11_mild_0 (by decide) ?_
  refine x_istore_n (lv1 := [(1, .int 0), (0, .ref 0)]) dX11_mild_1 (by decide) rfl ?_
  refine x_iconst (v := (-1)) dX11_mild_2 (by decide) ?_
  refine x_istore_n (lv1 := [(2, .int (-1)), (1, .int 0), (0, .ref 0)]) dX11_mild_3 (by decide) rfl ?_
  refine x_iconst (v := 0) dX11_mild_4 (by decide) ?_
  refine x_istore_n (lv1 := [(3, .int 0), (2, .int (-1)), (1, .int 0), (0, .ref 0)]) dX11_mild_5 (by decide) rfl ?_
  exact EX.sub [3, 2, 1, 0] k1 rfl
set_option maxRecDepth 8000 in
theorem qX11_mild_6 {g : GG} {d : Nat} {M : MM} {P : Option Value → MM → Prop} {i1 : Int32} {i2 : Int32} {i3 : Int32} {la lb pa pb rl : Nat} (L : Lay M la lb pa pb rl)
    (k1 : (mi M la 5) ≤ i3 → P (some (.int i2)) M)
    (k2 : ¬ ((mi M la 5) ≤ i3) → K0 g YX11_mild YX0_film d 33 [.ref la] [(0, .ref 0), (1, .int i1), (2, .int i2), (3, .int i3)] [.int i3, .ref la, .ref la] M P) :
    E0 g YX11_mild d 6 [(0, .ref 0), (1, .int i1), (2, .int i2), (3, .int i3)] [] M P := by
  have f1 : ob M 0 11 := L.s rfl (by decide)
  have f2 : mr M 0 2 = some la := L.rla
  have f3 : ob M la 0 := L.cla.o
  refine x_iload_n dX11_mild_6 3 rfl ?_
  refine x_aload_n dX11_mild_7 0 rfl ?_
  refine x_getR fdX11_10 rfl dX11_mild_8 f1.1 f1.2 f2 ?_
  refine x_getI fdX11_149 rfl dX11_mild_11 f3.1 f3.2 ?_
  refine x_ic_ge 63 dX11_mild_14 (by decide) (fun c1 => ?_) (fun c1 => ?_)
  · refine x_iload_n dX11_mild_63 2 rfl ?_
    exact x_iret rfl dX11_mild_64 (Nat.le_refl _) (Nat.le_refl _) (k1 c1)
  · refine x_aload_n dX11_mild_17 0 rfl ?_
    refine x_getR fdX11_10 rfl dX11_mild_18 f1.1 f1.2 f2 ?_
    refine x_aload_n dX11_mild_21 0 rfl ?_
    refine x_getR fdX11_10 rfl dX11_mild_22 f1.1 f1.2 f2 ?_
    refine x_iload_n dX11_mild_25 3 rfl ?_
    refine x_aload_n dX11_mild_26 0 rfl ?_
    refine x_getR fdX11_10 rfl dX11_mild_27 f1.1 f1.2 f2 ?_
    refine EX.sub [0, 1, 2, 3] (K0.v (As := []) (st := [.int i3, .ref la, .ref la]) cvX11_191 dX11_mild_30 rfl rfl f3 rfl (Nat.le_of_ble_eq_true rfl) (k2 c1)) rfl
set_option maxRecDepth 8000 in
theorem qX11_mild_33 {g : GG} {d : Nat} {M : MM} {P : Option Value → MM → Prop} {i1 : Int32} {i2 : Int32} {i3 : Int32} {s0 : Nat} {s1 : Nat} {s2 : Int32} {s3 : Int32}
    (h1 : ob M s1 0)
    (k1 : K0 g YX11_mild YX0_takenOut d 36 [.ref s1, .int s2, .int s3] [(0, .ref 0), (1, .int i1), (2, .int i2), (3, .int i3)] [.ref s0] M P) :
    E0 g YX11_mild d 33 [(0, .ref 0), (1, .int i1), (2, .int i2), (3, .int i3)] [.int s3, .int s2, .ref s1, .ref s0] M P := by
  refine EX.sub [0, 1, 2, 3] (K0.v (As := [.int s2, .int s3]) (st := [.ref s0]) cvX11_145 dX11_mild_33 rfl rfl h1 rfl (Nat.le_of_ble_eq_true rfl) (k1)) rfl
set_option maxRecDepth 8000 in
theorem qX11_mild_36 {g : GG} {d : Nat} {M : MM} {P : Option Value → MM → Prop} {i1 : Int32} {i2 : Int32} {i3 : Int32} {s0 : Nat} {s1 : Int32}
    (h1 : ob M s0 0)
    (k1 : K0 g YX11_mild YX0_minutesOf d 39 [.ref s0, .int s1] [(0, .ref 0), (1, .int i1), (2, .int i2), (3, .int i3)] [] M P) :
    E0 g YX11_mild d 36 [(0, .ref 0), (1, .int i1), (2, .int i2), (3, .int i3)] [.int s1, .ref s0] M P := by
  refine EX.sub [0, 1, 2, 3] (K0.v (As := [.int s1]) (st := []) cvX11_159 dX11_mild_36 rfl rfl h1 rfl (Nat.le_of_ble_eq_true rfl) (k1)) rfl
set_option maxRecDepth 8000 in
theorem qX11_mild_39 {g : GG} {d : Nat} {M : MM} {P : Option Value → MM → Prop} {i1 : Int32} {i2 : Int32} {i3 : Int32} {s0 : Int32}
    (k1 : i2 = (-1) → E0 g YX11_mild d 6 [(0, .ref 0), (1, .int s0), (2, .int i3), (3, .int (i3 + 1))] [] M P)
    (k2 : ¬ (i2 = (-1)) → i1 ≤ s0 → E0 g YX11_mild d 6 [(0, .ref 0), (1, .int i1), (2, .int i2), (3, .int (i3 + 1))] [] M P)
    (k3 : ¬ (i2 = (-1)) → ¬ (i1 ≤ s0) → E0 g YX11_mild d 6 [(0, .ref 0), (1, .int s0), (2, .int i3), (3, .int (i3 + 1))] [] M P) :
    E0 g YX11_mild d 39 [(0, .ref 0), (1, .int i1), (2, .int i2), (3, .int i3)] [.int s0] M P := by
  refine x_istore (lv1 := [(4, .int s0), (0, .ref 0), (1, .int i1), (2, .int i2), (3, .int i3)]) dX11_mild_39 (by decide) rfl ?_
  refine x_iload_n dX11_mild_41 3 rfl ?_
  refine x_iconst (v := (-1)) dX11_mild_42 (by decide) ?_
  refine x_ic_eq 52 dX11_mild_43 (by decide) (fun c1 => ?_) (fun c1 => ?_)
  · refine x_iload dX11_mild_52 0 rfl ?_
    refine x_istore_n (lv1 := [(1, .int s0), (4, .int s0), (0, .ref 0), (2, .int i2), (3, .int i3)]) dX11_mild_54 (by decide) rfl ?_
    refine x_iload_n dX11_mild_55 4 rfl ?_
    refine x_istore_n (lv1 := [(2, .int i3), (1, .int s0), (4, .int s0), (0, .ref 0), (3, .int i3)]) dX11_mild_56 (by decide) rfl ?_
    refine x_iinc (v := (i3 + 1)) (lv1 := [(3, .int (i3 + 1)), (2, .int i3), (1, .int s0), (4, .int s0), (0, .ref 0)]) dX11_mild_57 4 rfl rfl (by decide) rfl ?_
    refine x_goto 6 dX11_mild_60 (by decide) ?_
    exact EX.sub [4, 2, 1, 0] (k1 c1) rfl
  · refine x_iload dX11_mild_46 0 rfl ?_
    refine x_iload_n dX11_mild_48 2 rfl ?_
    refine x_ic_ge 57 dX11_mild_49 (by decide) (fun c2 => ?_) (fun c2 => ?_)
    · refine x_iinc (v := (i3 + 1)) (lv1 := [(3, .int (i3 + 1)), (4, .int s0), (0, .ref 0), (1, .int i1), (2, .int i2)]) dX11_mild_57 4 rfl rfl (by decide) rfl ?_
      refine x_goto 6 dX11_mild_60 (by decide) ?_
      exact EX.sub [2, 3, 4, 0] (k2 c1 c2) rfl
    · refine x_iload dX11_mild_52 0 rfl ?_
      refine x_istore_n (lv1 := [(1, .int s0), (4, .int s0), (0, .ref 0), (2, .int i2), (3, .int i3)]) dX11_mild_54 (by decide) rfl ?_
      refine x_iload_n dX11_mild_55 4 rfl ?_
      refine x_istore_n (lv1 := [(2, .int i3), (1, .int s0), (4, .int s0), (0, .ref 0), (3, .int i3)]) dX11_mild_56 (by decide) rfl ?_
      refine x_iinc (v := (i3 + 1)) (lv1 := [(3, .int (i3 + 1)), (2, .int i3), (1, .int s0), (4, .int s0), (0, .ref 0)]) dX11_mild_57 4 rfl rfl (by decide) rfl ?_
      refine x_goto 6 dX11_mild_60 (by decide) ?_
      exact EX.sub [4, 2, 1, 0] (k3 c1 c2) rfl
set_option maxRecDepth 8000 in
theorem qX11_see_0 {g : GG} {d : Nat} {M : MM} {P : Option Value → MM → Prop} {i1 : Int32} {i2 : Int32} {la lb pa pb rl : Nat} (L : Lay M la lb pa pb rl)
    (k1 : K0 g YX11_see YX0_isShot d 8 [.ref la, .int i1] [(0, .ref 0), (1, .int i1), (2, .int i2)] [] M P) :
    E0 g YX11_see d 0 [(0, .ref 0), (1, .int i1), (2, .int i2)] [] M P := by
  have f1 : ob M 0 11 := L.s rfl (by decide)
  have f2 : mr M 0 2 = some la := L.rla
  have f3 : ob M la 0 := L.cla.o
  refine x_aload_n dX11_see_0 0 rfl ?_
  refine x_getR fdX11_10 rfl dX11_see_1 f1.1 f1.2 f2 ?_
  refine x_iload_n dX11_see_4 1 rfl ?_
  refine EX.sub [0, 1, 2] (K0.v (As := [.int i1]) (st := []) cvX11_116 dX11_see_5 rfl rfl f3 rfl (Nat.le_of_ble_eq_true rfl) (k1)) rfl
set_option maxRecDepth 8000 in
theorem qX11_see_8 {g : GG} {d : Nat} {M : MM} {P : Option Value → MM → Prop} {i1 : Int32} {i2 : Int32} {s0 : Int32} {la lb pa pb rl : Nat} (L : Lay M la lb pa pb rl)
    (k1 : s0 = 0 → P (some (.int 0)) M)
    (k2 : ¬ (s0 = 0) → K0 g YX11_see YX8_add d 20 [.ref 77, .int i1, .int i2] [] [] M P) :
    E0 g YX11_see d 8 [(0, .ref 0), (1, .int i1), (2, .int i2)] [.int s0] M P := by
  have f1 : ob M 0 11 := L.s rfl (by decide)
  have f2 : mr M 0 9 = some 77 := L.r 5 rfl
  have f3 : ob M 77 8 := L.s rfl (by decide)
  refine x_if_eq 27 dX11_see_8 (by decide) (fun c1 => ?_) (fun c1 => ?_)
  · refine x_iconst (v := 0) dX11_see_27 (by decide) ?_
    exact x_zret rfl dX11_see_28 rfl (Nat.le_refl _) (Nat.le_refl _) (k1 c1)
  · refine x_aload_n dX11_see_11 0 rfl ?_
    refine x_getR fdX11_65 rfl dX11_see_12 f1.1 f1.2 f2 ?_
    refine x_iload_n dX11_see_15 1 rfl ?_
    refine x_iload_n dX11_see_16 2 rfl ?_
    refine EX.sub [] (K0.v (As := [.int i1, .int i2]) (st := []) cvX11_288 dX11_see_17 rfl rfl f3 rfl (Nat.le_of_ble_eq_true rfl) (k2 c1)) rfl
set_option maxRecDepth 8000 in
theorem qX11_see_20 {g : GG} {d : Nat} {M : MM} {P : Option Value → MM → Prop} {s0 : Int32}
    (k1 : s0 = 0 → P (some (.int 0)) M)
    (k2 : ¬ (s0 = 0) → P (some (.int 1)) M) :
    E0 g YX11_see d 20 [] [.int s0] M P := by
  refine x_if_eq 27 dX11_see_20 (by decide) (fun c1 => ?_) (fun c1 => ?_)
  · refine x_iconst (v := 0) dX11_see_27 (by decide) ?_
    exact x_zret rfl dX11_see_28 rfl (Nat.le_refl _) (Nat.le_refl _) (k1 c1)
  · refine x_iconst (v := 1) dX11_see_23 (by decide) ?_
    refine x_goto 28 dX11_see_24 (by decide) ?_
    exact x_zret rfl dX11_see_28 rfl (Nat.le_refl _) (Nat.le_refl _) (k2 c1)
set_option maxRecDepth 8000 in
theorem qX11_halls_0 {g : GG} {d : Nat} {M : MM} {P : Option Value → MM → Prop}  {la lb pa pb rl : Nat} (L : Lay M la lb pa pb rl)
    (k1 : K0 g YX11_halls YX11_fillRows d 4 [.ref 0] [(0, .ref 0)] [] M P) :
    E0 g YX11_halls d 0 [(0, .ref 0)] [] M P := by
  have f1 : ob M 0 11 := L.s rfl (by decide)
  refine x_aload_n dX11_halls_0 0 rfl ?_
  refine EX.sub [0] (K0.v (As := []) (st := []) cvX11_270 dX11_halls_1 rfl rfl f1 rfl (Nat.le_of_ble_eq_true rfl) (k1)) rfl
set_option maxRecDepth 8000 in
theorem qX11_halls_4 {g : GG} {d : Nat} {M : MM} {P : Option Value → MM → Prop} 
    (k1 : E0 g YX11_halls d 8 [(0, .ref 0), (1, .int 0), (2, .int 0)] [] M P) :
    E0 g YX11_halls d 4 [(0, .ref 0)] [] M P := by
  refine x_iconst (v := 0) dX11_halls_4 (by decide) ?_
  refine x_istore_n (lv1 := [(1, .int 0), (0, .ref 0)]) dX11_halls_5 (by decide) rfl ?_
  refine x_iconst (v := 0) dX11_halls_6 (by decide) ?_
  refine x_istore_n (lv1 := [(2, .int 0), (1, .int 0), (0, .ref 0)]) dX11_halls_7 (by decide) rfl ?_
  exact EX.sub [2, 1, 0] k1 rfl
set_option maxRecDepth 8000 in
theorem qX11_halls_8 {g : GG} {d : Nat} {M : MM} {P : Option Value → MM → Prop} {i1 : Int32} {i2 : Int32} {la lb pa pb rl : Nat} (L : Lay M la lb pa pb rl)
    (h1 : ¬ ((mi M la 5) ≤ i2) → vp_in i2 6)
    (k1 : (mi M la 5) ≤ i2 → P (some (.int i1)) M)
    (k2 : ¬ ((mi M la 5) ≤ i2) → K0 g YX11_halls YX8_fit d 32 [.ref 77, .int (mi M 129 (i2 : Int32).toNatClampNeg)] [(0, .ref 0), (1, .int i1), (2, .int i2)] [] M P) :
    E0 g YX11_halls d 8 [(0, .ref 0), (1, .int i1), (2, .int i2)] [] M P := by
  have f1 : ob M 0 11 := L.s rfl (by decide)
  have f2 : mr M 0 2 = some la := L.rla
  have f3 : ob M la 0 := L.cla.o
  have f4 : mr M 0 9 = some 77 := L.r 5 rfl
  have f5 : mr M 0 13 = some 129 := L.r 9 rfl
  have f6 : ar M 129 1 6 := L.s rfl (by decide)
  have f7 : ob M 77 8 := L.s rfl (by decide)
  refine x_iload_n dX11_halls_8 2 rfl ?_
  refine x_aload_n dX11_halls_9 0 rfl ?_
  refine x_getR fdX11_10 rfl dX11_halls_10 f1.1 f1.2 f2 ?_
  refine x_getI fdX11_149 rfl dX11_halls_13 f3.1 f3.2 ?_
  refine x_ic_ge 47 dX11_halls_16 (by decide) (fun c1 => ?_) (fun c1 => ?_)
  · refine x_iload_n dX11_halls_47 1 rfl ?_
    exact x_iret rfl dX11_halls_48 (Nat.le_refl _) (Nat.le_refl _) (k1 c1)
  · refine x_aload_n dX11_halls_19 0 rfl ?_
    refine x_getR fdX11_65 rfl dX11_halls_20 f1.1 f1.2 f4 ?_
    refine x_aload_n dX11_halls_23 0 rfl ?_
    refine x_getR fdX11_90 rfl dX11_halls_24 f1.1 f1.2 f5 ?_
    refine x_iload_n dX11_halls_27 2 rfl ?_
    refine x_iald dX11_halls_28 f6.1 f6.2 (h1 c1) ?_
    refine EX.sub [0, 1, 2] (K0.v (As := [.int (mi M 129 (i2 : Int32).toNatClampNeg)]) (st := []) cvX11_292 dX11_halls_29 rfl rfl f7 rfl (Nat.le_of_ble_eq_true rfl) (k2 c1)) rfl
set_option maxRecDepth 8000 in
theorem qX11_halls_32 {g : GG} {d : Nat} {M : MM} {P : Option Value → MM → Prop} {i1 : Int32} {i2 : Int32} {s0 : Int32}
    (k1 : s0 = 0 → E0 g YX11_halls d 8 [(0, .ref 0), (1, .int i1), (2, .int (i2 + 1))] [] M P)
    (k2 : ¬ (s0 = 0) → E0 g YX11_halls d 8 [(0, .ref 0), (1, .int (i1 ||| ((1 : Int32) <<< (i2 &&& 31)))), (2, .int (i2 + 1))] [] M P) :
    E0 g YX11_halls d 32 [(0, .ref 0), (1, .int i1), (2, .int i2)] [.int s0] M P := by
  refine x_if_eq 41 dX11_halls_32 (by decide) (fun c1 => ?_) (fun c1 => ?_)
  · refine x_iinc (v := (i2 + 1)) (lv1 := [(2, .int (i2 + 1)), (0, .ref 0), (1, .int i1)]) dX11_halls_41 2 rfl rfl (by decide) rfl ?_
    refine x_goto 8 dX11_halls_44 (by decide) ?_
    exact EX.sub [1, 2, 0] (k1 c1) rfl
  · refine x_iload_n dX11_halls_35 1 rfl ?_
    refine x_iconst (v := 1) dX11_halls_36 (by decide) ?_
    refine x_iload_n dX11_halls_37 2 rfl ?_
    refine x_ishl dX11_halls_38 ?_
    refine x_ior dX11_halls_39 ?_
    refine x_istore_n (lv1 := [(1, .int (i1 ||| ((1 : Int32) <<< (i2 &&& 31)))), (0, .ref 0), (2, .int i2)]) dX11_halls_40 (by decide) rfl ?_
    refine x_iinc (v := (i2 + 1)) (lv1 := [(2, .int (i2 + 1)), (1, .int (i1 ||| ((1 : Int32) <<< (i2 &&& 31)))), (0, .ref 0)]) dX11_halls_41 2 rfl rfl (by decide) rfl ?_
    refine x_goto 8 dX11_halls_44 (by decide) ?_
    exact EX.sub [2, 1, 0] (k2 c1) rfl
set_option maxRecDepth 8000 in
theorem qX11_ask_0 {g : GG} {d : Nat} {M : MM} {P : Option Value → MM → Prop}  {la lb pa pb rl : Nat} (L : Lay M la lb pa pb rl)
    (k1 : K0 g YX11_ask YX11_halls d 4 [.ref 0] [(0, .ref 0)] [] M P) :
    E0 g YX11_ask d 0 [(0, .ref 0)] [] M P := by
  have f1 : ob M 0 11 := L.s rfl (by decide)
  refine x_aload_n dX11_ask_0 0 rfl ?_
  refine EX.sub [0] (K0.v (As := []) (st := []) cvX11_295 dX11_ask_1 rfl rfl f1 rfl (Nat.le_of_ble_eq_true rfl) (k1)) rfl
set_option maxRecDepth 8000 in
theorem qX11_ask_4 {g : GG} {d : Nat} {M : MM} {P : Option Value → MM → Prop} {s0 : Int32}
    (k1 : K0 g YX11_ask YJ6_bitCount_0f7a4 d 9 [.int s0] [(0, .ref 0), (1, .int s0)] [] M P) :
    E0 g YX11_ask d 4 [(0, .ref 0)] [.int s0] M P := by
  refine x_istore_n (lv1 := [(1, .int s0), (0, .ref 0)]) dX11_ask_4 (by decide) rfl ?_
  refine x_iload_n dX11_ask_5 0 rfl ?_
  refine EX.sub [1, 0] (K0.s (As := [.int s0]) (st := []) csX11_171 dX11_ask_6 rfl rfl (Nat.le_of_ble_eq_true rfl) (k1)) rfl
set_option maxRecDepth 8000 in
theorem qX11_ask_9 {g : GG} {d : Nat} {M : MM} {P : Option Value → MM → Prop} {i1 : Int32} {s0 : Int32}
    (k1 : E0 g YX11_ask d 15 [(0, .ref 0), (1, .int i1), (2, .int s0), (3, .int (-1)), (4, .int 0)] [] M P) :
    E0 g YX11_ask d 9 [(0, .ref 0), (1, .int i1)] [.int s0] M P := by
  refine x_istore_n (lv1 := [(2, .int s0), (0, .ref 0), (1, .int i1)]) dX11_ask_9 (by decide) rfl ?_
  refine x_iconst (v := (-1)) dX11_ask_10 (by decide) ?_
  refine x_istore_n (lv1 := [(3, .int (-1)), (2, .int s0), (0, .ref 0), (1, .int i1)]) dX11_ask_11 (by decide) rfl ?_
  refine x_iconst (v := 0) dX11_ask_12 (by decide) ?_
  refine x_istore (lv1 := [(4, .int 0), (3, .int (-1)), (2, .int s0), (0, .ref 0), (1, .int i1)]) dX11_ask_13 (by decide) rfl ?_
  exact EX.sub [3, 4, 2, 1, 0] k1 rfl
set_option maxRecDepth 8000 in
theorem qX11_ask_15 {g : GG} {d : Nat} {M : MM} {P : Option Value → MM → Prop} {i1 : Int32} {i2 : Int32} {i3 : Int32} {i4 : Int32} {la lb pa pb rl : Nat} (L : Lay M la lb pa pb rl)
    (k1 : (mi M la 0) ≤ i4 → P (some (.int i3)) M)
    (k2 : ¬ ((mi M la 0) ≤ i4) → K0 g YX11_ask YX11_greaterPart d 34 [.ref 0, .int i1, .int i4] [(0, .ref 0), (1, .int i1), (2, .int i2), (3, .int i3), (4, .int i4)] [] M P) :
    E0 g YX11_ask d 15 [(0, .ref 0), (1, .int i1), (2, .int i2), (3, .int i3), (4, .int i4)] [] M P := by
  have f1 : ob M 0 11 := L.s rfl (by decide)
  have f2 : mr M 0 2 = some la := L.rla
  have f3 : ob M la 0 := L.cla.o
  refine x_iload dX11_ask_15 4 rfl ?_
  refine x_aload_n dX11_ask_17 0 rfl ?_
  refine x_getR fdX11_10 rfl dX11_ask_18 f1.1 f1.2 f2 ?_
  refine x_getI fdX11_246 rfl dX11_ask_21 f3.1 f3.2 ?_
  refine x_ic_ge 54 dX11_ask_24 (by decide) (fun c1 => ?_) (fun c1 => ?_)
  · refine x_iload_n dX11_ask_54 3 rfl ?_
    exact x_iret rfl dX11_ask_55 (Nat.le_refl _) (Nat.le_refl _) (k1 c1)
  · refine x_aload_n dX11_ask_27 0 rfl ?_
    refine x_iload_n dX11_ask_28 1 rfl ?_
    refine x_iload dX11_ask_29 4 rfl ?_
    refine EX.sub [0, 1, 2, 3, 4] (K0.v (As := [.int i1, .int i4]) (st := []) cvX11_298 dX11_ask_31 rfl rfl f1 rfl (Nat.le_of_ble_eq_true rfl) (k2 c1)) rfl
set_option maxRecDepth 8000 in
theorem qX11_ask_34 {g : GG} {d : Nat} {M : MM} {P : Option Value → MM → Prop} {i1 : Int32} {i2 : Int32} {i3 : Int32} {i4 : Int32} {s0 : Int32}
    (k1 : i2 ≤ s0 → E0 g YX11_ask d 15 [(0, .ref 0), (1, .int i1), (2, .int i2), (3, .int i3), (4, .int (i4 + 1))] [] M P)
    (k2 : ¬ (i2 ≤ s0) → E0 g YX11_ask d 15 [(0, .ref 0), (1, .int i1), (2, .int s0), (3, .int i4), (4, .int (i4 + 1))] [] M P) :
    E0 g YX11_ask d 34 [(0, .ref 0), (1, .int i1), (2, .int i2), (3, .int i3), (4, .int i4)] [.int s0] M P := by
  refine x_istore (lv1 := [(5, .int s0), (0, .ref 0), (1, .int i1), (2, .int i2), (3, .int i3), (4, .int i4)]) dX11_ask_34 (by decide) rfl ?_
  refine x_iload dX11_ask_36 0 rfl ?_
  refine x_iload_n dX11_ask_38 3 rfl ?_
  refine x_ic_ge 48 dX11_ask_39 (by decide) (fun c1 => ?_) (fun c1 => ?_)
  · refine x_iinc (v := (i4 + 1)) (lv1 := [(4, .int (i4 + 1)), (5, .int s0), (0, .ref 0), (1, .int i1), (2, .int i2), (3, .int i3)]) dX11_ask_48 5 rfl rfl (by decide) rfl ?_
    refine x_goto 15 dX11_ask_51 (by decide) ?_
    exact EX.sub [2, 3, 4, 5, 0] (k1 c1) rfl
  · refine x_iload dX11_ask_42 0 rfl ?_
    refine x_istore_n (lv1 := [(2, .int s0), (5, .int s0), (0, .ref 0), (1, .int i1), (3, .int i3), (4, .int i4)]) dX11_ask_44 (by decide) rfl ?_
    refine x_iload dX11_ask_45 5 rfl ?_
    refine x_istore_n (lv1 := [(3, .int i4), (2, .int s0), (5, .int s0), (0, .ref 0), (1, .int i1), (4, .int i4)]) dX11_ask_47 (by decide) rfl ?_
    refine x_iinc (v := (i4 + 1)) (lv1 := [(4, .int (i4 + 1)), (3, .int i4), (2, .int s0), (5, .int s0), (0, .ref 0), (1, .int i1)]) dX11_ask_48 5 rfl rfl (by decide) rfl ?_
    refine x_goto 15 dX11_ask_51 (by decide) ?_
    exact EX.sub [4, 5, 2, 1, 0] (k2 c1) rfl
set_option maxRecDepth 8000 in
theorem qX11_share_0 {g : GG} {d : Nat} {M : MM} {P : Option Value → MM → Prop} {i1 : Int32} {la lb pa pb rl : Nat} (L : Lay M la lb pa pb rl)
    (k1 : K0 g YX11_share YX0_isHall d 8 [.ref la, .int i1] [(0, .ref 0), (1, .int i1)] [] M P) :
    E0 g YX11_share d 0 [(0, .ref 0), (1, .int i1)] [] M P := by
  have f1 : ob M 0 11 := L.s rfl (by decide)
  have f2 : mr M 0 2 = some la := L.rla
  have f3 : ob M la 0 := L.cla.o
  refine x_aload_n dX11_share_0 0 rfl ?_
  refine x_getR fdX11_10 rfl dX11_share_1 f1.1 f1.2 f2 ?_
  refine x_iload_n dX11_share_4 1 rfl ?_
  refine EX.sub [0, 1] (K0.v (As := [.int i1]) (st := []) cvX11_132 dX11_share_5 rfl rfl f3 rfl (Nat.le_of_ble_eq_true rfl) (k1)) rfl
set_option maxRecDepth 8000 in
theorem qX11_share_8 {g : GG} {d : Nat} {M : MM} {P : Option Value → MM → Prop} {i1 : Int32} {s0 : Int32} {la lb pa pb rl : Nat} (L : Lay M la lb pa pb rl)
    (k1 : ¬ s0 = 0 → K0 g YX11_share YX10_drawn d 24 [.ref 39] [(0, .ref 0), (1, .int i1)] [.ref la] M P)
    (k2 : s0 = 0 → P (some (.int (-1))) M) :
    E0 g YX11_share d 8 [(0, .ref 0), (1, .int i1)] [.int s0] M P := by
  have f1 : ob M 0 11 := L.s rfl (by decide)
  have f2 : mr M 0 2 = some la := L.rla
  have f3 : mr M 0 6 = some 39 := L.r 2 rfl
  have f4 : ob M 39 10 := L.s rfl (by decide)
  refine x_if_ne 13 dX11_share_8 (by decide) (fun c1 => ?_) (fun c1 => ?_)
  · refine x_aload_n dX11_share_13 0 rfl ?_
    refine x_getR fdX11_10 rfl dX11_share_14 f1.1 f1.2 f2 ?_
    refine x_aload_n dX11_share_17 0 rfl ?_
    refine x_getR fdX11_48 rfl dX11_share_18 f1.1 f1.2 f3 ?_
    refine EX.sub [0, 1] (K0.v (As := []) (st := [.ref la]) cvX11_276 dX11_share_21 rfl rfl f4 rfl (Nat.le_of_ble_eq_true rfl) (k1 c1)) rfl
  · refine x_iconst (v := (-1)) dX11_share_11 (by decide) ?_
    exact x_iret rfl dX11_share_12 (Nat.le_refl _) (Nat.le_refl _) (k2 c1)
set_option maxRecDepth 8000 in
theorem qX11_share_24 {g : GG} {d : Nat} {M : MM} {P : Option Value → MM → Prop} {i1 : Int32} {s0 : Nat} {s1 : Int32}
    (h1 : ob M s0 0)
    (k1 : K0 g YX11_share YX0_minutesOf d 27 [.ref s0, .int s1] [(0, .ref 0), (1, .int i1)] [] M P) :
    E0 g YX11_share d 24 [(0, .ref 0), (1, .int i1)] [.int s1, .ref s0] M P := by
  refine EX.sub [0, 1] (K0.v (As := [.int s1]) (st := []) cvX11_159 dX11_share_24 rfl rfl h1 rfl (Nat.le_of_ble_eq_true rfl) (k1)) rfl
set_option maxRecDepth 8000 in
theorem qX11_share_27 {g : GG} {d : Nat} {M : MM} {P : Option Value → MM → Prop} {i1 : Int32} {s0 : Int32} {la lb pa pb rl : Nat} (L : Lay M la lb pa pb rl)
    (h1 : ¬ s0 = 0 → vp_in i1 6)
    (k1 : ¬ s0 = 0 → K0 g YX11_share YX0_minutesOf d 52 [.ref la, .int (mi M 40 (i1 : Int32).toNatClampNeg)] [(2, .int s0)] [] M P)
    (k2 : s0 = 0 → P (some (.int 0)) M) :
    E0 g YX11_share d 27 [(0, .ref 0), (1, .int i1)] [.int s0] M P := by
  have f1 : ob M 0 11 := L.s rfl (by decide)
  have f2 : mr M 0 2 = some la := L.rla
  have f3 : mr M 0 6 = some 39 := L.r 2 rfl
  have f4 : ob M 39 10 := L.s rfl (by decide)
  have f5 : mr M 39 1 = some 40 := L.r 43 rfl
  have f6 : ar M 40 1 6 := L.s rfl (by decide)
  have f7 : ob M la 0 := L.cla.o
  refine x_istore_n (lv1 := [(2, .int s0), (0, .ref 0), (1, .int i1)]) dX11_share_27 (by decide) rfl ?_
  refine x_iload_n dX11_share_28 0 rfl ?_
  refine x_if_ne 36 dX11_share_29 (by decide) (fun c1 => ?_) (fun c1 => ?_)
  · refine x_aload_n dX11_share_36 1 rfl ?_
    refine x_getR fdX11_10 rfl dX11_share_37 f1.1 f1.2 f2 ?_
    refine x_aload_n dX11_share_40 1 rfl ?_
    refine x_getR fdX11_48 rfl dX11_share_41 f1.1 f1.2 f3 ?_
    refine x_getR fdX11_138 rfl dX11_share_44 f4.1 f4.2 f5 ?_
    refine x_iload_n dX11_share_47 2 rfl ?_
    refine x_iald dX11_share_48 f6.1 f6.2 (h1 c1) ?_
    refine EX.sub [0] (K0.v (As := [.int (mi M 40 (i1 : Int32).toNatClampNeg)]) (st := []) cvX11_159 dX11_share_49 rfl rfl f7 rfl (Nat.le_of_ble_eq_true rfl) (k1 c1)) rfl
  · refine x_iconst (v := 0) dX11_share_32 (by decide) ?_
    refine x_goto 58 dX11_share_33 (by decide) ?_
    exact x_iret rfl dX11_share_58 (Nat.le_refl _) (Nat.le_refl _) (k2 c1)
set_option maxRecDepth 8000 in
theorem qX11_share_52 {g : GG} {d : Nat} {M : MM} {P : Option Value → MM → Prop} {i2 : Int32} {s0 : Int32}
    (h1 : ¬ i2 = 0)
    (k1 : P (some (.int ((s0 * 1000) / i2))) M) :
    E0 g YX11_share d 52 [(2, .int i2)] [.int s0] M P := by
  refine x_sipush (v := 1000) dX11_share_52 (by decide) ?_
  refine x_imul dX11_share_55 ?_
  refine x_iload_n dX11_share_56 0 rfl ?_
  refine x_idiv dX11_share_57 (h1) ?_
  exact x_iret rfl dX11_share_58 (Nat.le_refl _) (Nat.le_refl _) (k1)
set_option maxRecDepth 8000 in
theorem qX11_tours_0 {g : GG} {d : Nat} {M : MM} {P : Option Value → MM → Prop} {i1 : Int32} {i2 : Int32} {i3 : Int32} {la lb pa pb rl : Nat} (L : Lay M la lb pa pb rl)
    (k1 : i1 < 0 → E0 g YX11_tours d 26 [(0, .ref 0), (1, .int i1), (2, .int i2), (3, .int i3)] [] M P)
    (k2 : ¬ (i1 < 0) → 9999 < i1 → E0 g YX11_tours d 26 [(0, .ref 0), (1, .int i1), (2, .int i2), (3, .int i3)] [] M P)
    (k3 : ¬ (i1 < 0) → ¬ (9999 < i1) → i2 < 1 → E0 g YX11_tours d 26 [(0, .ref 0), (1, .int i1), (2, .int i2), (3, .int i3)] [] M P)
    (k4 : ¬ (i1 < 0) → ¬ (9999 < i1) → ¬ (i2 < 1) → 99 < i2 → E0 g YX11_tours d 26 [(0, .ref 0), (1, .int i1), (2, .int i2), (3, .int i3)] [] M P)
    (k5 : ¬ (i1 < 0) → ¬ (9999 < i1) → ¬ (i2 < 1) → ¬ (99 < i2) → i3 < 0 → P (some (.int (-1))) M)
    (k6 : ¬ (i1 < 0) → ¬ (9999 < i1) → ¬ (i2 < 1) → ¬ (99 < i2) → ¬ (i3 < 0) → i3 ≤ 2 → K0 g YX11_tours YX10_copy d 62 [.ref 41, .ref 39] [(0, .ref 0), (1, .int i1), (2, .int i2), (3, .int i3), (5, .int 0), (6, .int 0)] [] M P)
    (k7 : ¬ (i1 < 0) → ¬ (9999 < i1) → ¬ (i2 < 1) → ¬ (99 < i2) → ¬ (i3 < 0) → ¬ (i3 ≤ 2) → P (some (.int (-1))) M) :
    E0 g YX11_tours d 0 [(0, .ref 0), (1, .int i1), (2, .int i2), (3, .int i3)] [] M P := by
  have f1 : ob M 0 11 := L.s rfl (by decide)
  have f2 : mr M 0 7 = some 41 := L.r 3 rfl
  have f3 : mr M 0 6 = some 39 := L.r 2 rfl
  have f4 : ob M 41 10 := L.s rfl (by decide)
  refine x_iload_n dX11_tours_0 1 rfl ?_
  refine x_if_lt 26 dX11_tours_1 (by decide) (fun c1 => ?_) (fun c1 => ?_)
  · exact EX.sub [0, 1, 2, 3] (k1 c1) rfl
  · refine x_iload_n dX11_tours_4 1 rfl ?_
    refine x_sipush (v := 9999) dX11_tours_5 (by decide) ?_
    refine x_ic_gt 26 dX11_tours_8 (by decide) (fun c2 => ?_) (fun c2 => ?_)
    · exact EX.sub [0, 1, 2, 3] (k2 c1 c2) rfl
    · refine x_iload_n dX11_tours_11 2 rfl ?_
      refine x_iconst (v := 1) dX11_tours_12 (by decide) ?_
      refine x_ic_lt 26 dX11_tours_13 (by decide) (fun c3 => ?_) (fun c3 => ?_)
      · exact EX.sub [0, 1, 2, 3] (k3 c1 c2 c3) rfl
      · refine x_iload_n dX11_tours_16 2 rfl ?_
        refine x_bipush (v := 99) dX11_tours_17 (by decide) ?_
        refine x_ic_gt 26 dX11_tours_19 (by decide) (fun c4 => ?_) (fun c4 => ?_)
        · exact EX.sub [0, 1, 2, 3] (k4 c1 c2 c3 c4) rfl
        · refine x_iconst (v := 1) dX11_tours_22 (by decide) ?_
          refine x_goto 27 dX11_tours_23 (by decide) ?_
          refine x_istore (lv1 := [(4, .int 1), (0, .ref 0), (1, .int i1), (2, .int i2), (3, .int i3)]) dX11_tours_27 (by decide) rfl ?_
          refine x_iload dX11_tours_29 0 rfl ?_
          refine x_if_eq 43 dX11_tours_31 (by decide) (fun cz => absurd cz (by decide)) (fun _ => ?_)
          refine x_iload_n dX11_tours_34 4 rfl ?_
          refine x_if_lt 43 dX11_tours_35 (by decide) (fun c5 => ?_) (fun c5 => ?_)
          · refine x_iconst (v := (-1)) dX11_tours_43 (by decide) ?_
            exact x_iret rfl dX11_tours_44 (Nat.le_refl _) (Nat.le_refl _) (k5 c1 c2 c3 c4 c5)
          · refine x_iload_n dX11_tours_38 4 rfl ?_
            refine x_iconst (v := 2) dX11_tours_39 (by decide) ?_
            refine x_ic_le 45 dX11_tours_40 (by decide) (fun c6 => ?_) (fun c6 => ?_)
            · refine x_iconst (v := 0) dX11_tours_45 (by decide) ?_
              refine x_istore (lv1 := [(5, .int 0), (4, .int 1), (0, .ref 0), (1, .int i1), (2, .int i2), (3, .int i3)]) dX11_tours_46 (by decide) rfl ?_
              refine x_iconst (v := 0) dX11_tours_48 (by decide) ?_
              refine x_istore (lv1 := [(6, .int 0), (5, .int 0), (4, .int 1), (0, .ref 0), (1, .int i1), (2, .int i2), (3, .int i3)]) dX11_tours_49 (by decide) rfl ?_
              refine x_aload_n dX11_tours_51 3 rfl ?_
              refine x_getR fdX11_52 rfl dX11_tours_52 f1.1 f1.2 f2 ?_
              refine x_aload_n dX11_tours_55 3 rfl ?_
              refine x_getR fdX11_48 rfl dX11_tours_56 f1.1 f1.2 f3 ?_
              refine EX.sub [3, 4, 5, 6, 1, 0] (K0.v (As := [.ref 39]) (st := []) cvX11_224 dX11_tours_59 rfl rfl f4 rfl (Nat.le_of_ble_eq_true rfl) (k6 c1 c2 c3 c4 c5 c6)) rfl
            · refine x_iconst (v := (-1)) dX11_tours_43 (by decide) ?_
              exact x_iret rfl dX11_tours_44 (Nat.le_refl _) (Nat.le_refl _) (k7 c1 c2 c3 c4 c5 c6)
set_option maxRecDepth 8000 in
theorem qX11_tours_26 {g : GG} {d : Nat} {M : MM} {P : Option Value → MM → Prop} {i1 : Int32} {i2 : Int32} {i3 : Int32}
    (k1 : P (some (.int (-1))) M) :
    E0 g YX11_tours d 26 [(0, .ref 0), (1, .int i1), (2, .int i2), (3, .int i3)] [] M P := by
  refine x_iconst (v := 0) dX11_tours_26 (by decide) ?_
  refine x_istore (lv1 := [(4, .int 0), (0, .ref 0), (1, .int i1), (2, .int i2), (3, .int i3)]) dX11_tours_27 (by decide) rfl ?_
  refine x_iload dX11_tours_29 0 rfl ?_
  refine x_if_eq 43 dX11_tours_31 (by decide) (fun _ => ?_) (fun cz => absurd cz (by decide))
  refine x_iconst (v := (-1)) dX11_tours_43 (by decide) ?_
  exact x_iret rfl dX11_tours_44 (Nat.le_refl _) (Nat.le_refl _) (k1)
set_option maxRecDepth 8000 in
theorem qX11_tours_62 {g : GG} {d : Nat} {M : MM} {P : Option Value → MM → Prop} {i1 : Int32} {i2 : Int32} {i3 : Int32} {i5 : Int32} {i6 : Int32} {la lb pa pb rl : Nat} (L : Lay M la lb pa pb rl)
    (k1 : K0 g YX11_tours YX1_begin d 70 [.ref 128, .int i1] [(0, .ref 0), (2, .int i2), (3, .int i3), (5, .int i5), (6, .int i6)] [] M P) :
    E0 g YX11_tours d 62 [(0, .ref 0), (1, .int i1), (2, .int i2), (3, .int i3), (5, .int i5), (6, .int i6)] [] M P := by
  have f1 : ob M 0 11 := L.s rfl (by decide)
  have f2 : mr M 0 12 = some 128 := L.r 8 rfl
  have f3 : ob M 128 1 := L.s rfl (by decide)
  refine x_aload_n dX11_tours_62 0 rfl ?_
  refine x_getR fdX11_86 rfl dX11_tours_63 f1.1 f1.2 f2 ?_
  refine x_iload_n dX11_tours_66 1 rfl ?_
  refine EX.sub [0, 2, 3, 4, 5] (K0.v (As := [.int i1]) (st := []) cvX11_312 dX11_tours_67 rfl rfl f3 rfl (Nat.le_of_ble_eq_true rfl) (k1)) rfl
set_option maxRecDepth 8000 in
theorem qX11_tours_70 {g : GG} {d : Nat} {M : MM} {P : Option Value → MM → Prop} {i2 : Int32} {i3 : Int32} {i5 : Int32} {i6 : Int32}
    (k1 : E0 g YX11_tours d 73 [(0, .ref 0), (2, .int i2), (3, .int i3), (5, .int i5), (6, .int i6), (7, .int 0)] [] M P) :
    E0 g YX11_tours d 70 [(0, .ref 0), (2, .int i2), (3, .int i3), (5, .int i5), (6, .int i6)] [] M P := by
  refine x_iconst (v := 0) dX11_tours_70 (by decide) ?_
  refine x_istore (lv1 := [(7, .int 0), (0, .ref 0), (2, .int i2), (3, .int i3), (5, .int i5), (6, .int i6)]) dX11_tours_71 (by decide) rfl ?_
  exact EX.sub [1, 2, 3, 4, 5, 0] k1 rfl
set_option maxRecDepth 8000 in
theorem qX11_tours_73 {g : GG} {d : Nat} {M : MM} {P : Option Value → MM → Prop} {i2 : Int32} {i3 : Int32} {i5 : Int32} {i6 : Int32} {i7 : Int32} {la lb pa pb rl : Nat} (L : Lay M la lb pa pb rl)
    (k1 : i2 ≤ i7 → ¬ i3 = 0 → ¬ i3 = 1 → P (some (.int (mi M 41 0))) M)
    (k2 : i2 ≤ i7 → ¬ i3 = 0 → i3 = 1 → P (some (.int i6)) M)
    (k3 : i2 ≤ i7 → i3 = 0 → P (some (.int i5)) M)
    (k4 : ¬ (i2 ≤ i7) → (mi M la 5) ≤ 0 → ¬ i3 = 0 → ¬ i3 = 1 → P (some (.int (mi M 41 0))) M)
    (k5 : ¬ (i2 ≤ i7) → (mi M la 5) ≤ 0 → ¬ i3 = 0 → i3 = 1 → P (some (.int i6)) M)
    (k6 : ¬ (i2 ≤ i7) → (mi M la 5) ≤ 0 → i3 = 0 → P (some (.int i5)) M)
    (k7 : ¬ (i2 ≤ i7) → ¬ ((mi M la 5) ≤ 0) → K0 g YX11_tours YX1_below d 111 [.ref 128, .int (mi M la 5)] [(0, .ref 0), (2, .int i2), (3, .int i3), (5, .int i5), (6, .int i6), (7, .int i7)] [.ref la, .ref 41] M P) :
    E0 g YX11_tours d 73 [(0, .ref 0), (2, .int i2), (3, .int i3), (5, .int i5), (6, .int i6), (7, .int i7)] [] M P := by
  have f1 : ob M 0 11 := L.s rfl (by decide)
  have f2 : mr M 0 7 = some 41 := L.r 3 rfl
  have f3 : ob M 41 10 := L.s rfl (by decide)
  have f4 : mr M 0 2 = some la := L.rla
  have f5 : ob M la 0 := L.cla.o
  have f6 : mr M 0 12 = some 128 := L.r 8 rfl
  have f7 : ob M 128 1 := L.s rfl (by decide)
  refine x_iload dX11_tours_73 5 rfl ?_
  refine x_iload_n dX11_tours_75 1 rfl ?_
  refine x_ic_ge 170 dX11_tours_76 (by decide) (fun c1 => ?_) (fun c1 => ?_)
  · refine x_iload_n dX11_tours_170 2 rfl ?_
    refine x_if_ne 179 dX11_tours_171 (by decide) (fun c2 => ?_) (fun c2 => ?_)
    · refine x_iload_n dX11_tours_179 2 rfl ?_
      refine x_iconst (v := 1) dX11_tours_180 (by decide) ?_
      refine x_ic_ne 189 dX11_tours_181 (by decide) (fun c3 => ?_) (fun c3 => ?_)
      · refine x_aload_n dX11_tours_189 0 rfl ?_
        refine x_getR fdX11_52 rfl dX11_tours_190 f1.1 f1.2 f2 ?_
        refine x_getI fdX11_129 rfl dX11_tours_193 f3.1 f3.2 ?_
        exact x_iret rfl dX11_tours_196 (Nat.le_refl _) (Nat.le_refl _) (k1 c1 c2 c3)
      · refine x_iload dX11_tours_184 4 rfl ?_
        refine x_goto 196 dX11_tours_186 (by decide) ?_
        exact x_iret rfl dX11_tours_196 (Nat.le_refl _) (Nat.le_refl _) (k2 c1 c2 c3)
    · refine x_iload dX11_tours_174 3 rfl ?_
      refine x_goto 196 dX11_tours_176 (by decide) ?_
      exact x_iret rfl dX11_tours_196 (Nat.le_refl _) (Nat.le_refl _) (k3 c1 c2)
  · refine x_aload_n dX11_tours_79 0 rfl ?_
    refine x_getR fdX11_10 rfl dX11_tours_80 f1.1 f1.2 f4 ?_
    refine x_getI fdX11_149 rfl dX11_tours_83 f5.1 f5.2 ?_
    refine x_if_le 170 dX11_tours_86 (by decide) (fun c2 => ?_) (fun c2 => ?_)
    · refine x_iload_n dX11_tours_170 2 rfl ?_
      refine x_if_ne 179 dX11_tours_171 (by decide) (fun c3 => ?_) (fun c3 => ?_)
      · refine x_iload_n dX11_tours_179 2 rfl ?_
        refine x_iconst (v := 1) dX11_tours_180 (by decide) ?_
        refine x_ic_ne 189 dX11_tours_181 (by decide) (fun c4 => ?_) (fun c4 => ?_)
        · refine x_aload_n dX11_tours_189 0 rfl ?_
          refine x_getR fdX11_52 rfl dX11_tours_190 f1.1 f1.2 f2 ?_
          refine x_getI fdX11_129 rfl dX11_tours_193 f3.1 f3.2 ?_
          exact x_iret rfl dX11_tours_196 (Nat.le_refl _) (Nat.le_refl _) (k4 c1 c2 c3 c4)
        · refine x_iload dX11_tours_184 4 rfl ?_
          refine x_goto 196 dX11_tours_186 (by decide) ?_
          exact x_iret rfl dX11_tours_196 (Nat.le_refl _) (Nat.le_refl _) (k5 c1 c2 c3 c4)
      · refine x_iload dX11_tours_174 3 rfl ?_
        refine x_goto 196 dX11_tours_176 (by decide) ?_
        exact x_iret rfl dX11_tours_196 (Nat.le_refl _) (Nat.le_refl _) (k6 c1 c2 c3)
    · refine x_aload_n dX11_tours_89 0 rfl ?_
      refine x_getR fdX11_52 rfl dX11_tours_90 f1.1 f1.2 f2 ?_
      refine x_aload_n dX11_tours_93 0 rfl ?_
      refine x_getR fdX11_10 rfl dX11_tours_94 f1.1 f1.2 f4 ?_
      refine x_aload_n dX11_tours_97 0 rfl ?_
      refine x_getR fdX11_86 rfl dX11_tours_98 f1.1 f1.2 f6 ?_
      refine x_aload_n dX11_tours_101 0 rfl ?_
      refine x_getR fdX11_10 rfl dX11_tours_102 f1.1 f1.2 f4 ?_
      refine x_getI fdX11_149 rfl dX11_tours_105 f5.1 f5.2 ?_
      refine EX.sub [0, 1, 2, 3, 4, 5] (K0.v (As := [.int (mi M la 5)]) (st := [.ref la, .ref 41]) cvX11_313 dX11_tours_108 rfl rfl f7 rfl (Nat.le_of_ble_eq_true rfl) (k7 c1 c2)) rfl
set_option maxRecDepth 8000 in
theorem qX11_tours_111 {g : GG} {d : Nat} {M : MM} {P : Option Value → MM → Prop} {i2 : Int32} {i3 : Int32} {i5 : Int32} {i6 : Int32} {i7 : Int32} {s0 : Nat} {s1 : Nat} {s2 : Int32}
    (h1 : ob M s0 10)
    (k1 : K0 g YX11_tours YX10_showAt d 114 [.ref s0, .ref s1, .int s2] [(0, .ref 0), (2, .int i2), (3, .int i3), (5, .int i5), (6, .int i6), (7, .int i7)] [] M P) :
    E0 g YX11_tours d 111 [(0, .ref 0), (2, .int i2), (3, .int i3), (5, .int i5), (6, .int i6), (7, .int i7)] [.int s2, .ref s1, .ref s0] M P := by
  refine EX.sub [0, 1, 2, 3, 4, 5] (K0.v (As := [.ref s1, .int s2]) (st := []) cvX11_316 dX11_tours_111 rfl rfl h1 rfl (Nat.le_of_ble_eq_true rfl) (k1)) rfl
set_option maxRecDepth 8000 in
theorem qX11_tours_114 {g : GG} {d : Nat} {M : MM} {P : Option Value → MM → Prop} {i2 : Int32} {i3 : Int32} {i5 : Int32} {i6 : Int32} {i7 : Int32} {la lb pa pb rl : Nat} (L : Lay M la lb pa pb rl)
    (k1 : K0 g YX11_tours YX0_minutesOf d 130 [.ref la, .int (mi M 41 0)] [(0, .ref 0), (2, .int i2), (3, .int i3), (6, .int i6), (7, .int i7)] [.int i5] M P) :
    E0 g YX11_tours d 114 [(0, .ref 0), (2, .int i2), (3, .int i3), (5, .int i5), (6, .int i6), (7, .int i7)] [] M P := by
  have f1 : ob M 0 11 := L.s rfl (by decide)
  have f2 : mr M 0 2 = some la := L.rla
  have f3 : mr M 0 7 = some 41 := L.r 3 rfl
  have f4 : ob M 41 10 := L.s rfl (by decide)
  have f5 : ob M la 0 := L.cla.o
  refine x_iload dX11_tours_114 3 rfl ?_
  refine x_aload_n dX11_tours_116 0 rfl ?_
  refine x_getR fdX11_10 rfl dX11_tours_117 f1.1 f1.2 f2 ?_
  refine x_aload_n dX11_tours_120 0 rfl ?_
  refine x_getR fdX11_52 rfl dX11_tours_121 f1.1 f1.2 f3 ?_
  refine x_getI fdX11_129 rfl dX11_tours_124 f4.1 f4.2 ?_
  refine EX.sub [0, 1, 2, 4, 5] (K0.v (As := [.int (mi M 41 0)]) (st := [.int i5]) cvX11_159 dX11_tours_127 rfl rfl f5 rfl (Nat.le_of_ble_eq_true rfl) (k1)) rfl
set_option maxRecDepth 8000 in
theorem qX11_tours_130 {g : GG} {d : Nat} {M : MM} {P : Option Value → MM → Prop} {i2 : Int32} {i3 : Int32} {i6 : Int32} {i7 : Int32} {s0 : Int32} {s1 : Int32} {la lb pa pb rl : Nat} (L : Lay M la lb pa pb rl)
    (k1 : K0 g YX11_tours YX0_makesSense d 149 [.ref la, .int (mi M 41 0)] [(0, .ref 0), (2, .int i2), (3, .int i3), (5, .int (s0 + s1)), (7, .int i7)] [.int i6] M P) :
    E0 g YX11_tours d 130 [(0, .ref 0), (2, .int i2), (3, .int i3), (6, .int i6), (7, .int i7)] [.int s1, .int s0] M P := by
  have f1 : ob M 0 11 := L.s rfl (by decide)
  have f2 : mr M 0 2 = some la := L.rla
  have f3 : mr M 0 7 = some 41 := L.r 3 rfl
  have f4 : ob M 41 10 := L.s rfl (by decide)
  have f5 : ob M la 0 := L.cla.o
  refine x_iadd dX11_tours_130 ?_
  refine x_istore (lv1 := [(5, .int (s0 + s1)), (0, .ref 0), (2, .int i2), (3, .int i3), (6, .int i6), (7, .int i7)]) dX11_tours_131 (by decide) rfl ?_
  refine x_iload dX11_tours_133 4 rfl ?_
  refine x_aload_n dX11_tours_135 1 rfl ?_
  refine x_getR fdX11_10 rfl dX11_tours_136 f1.1 f1.2 f2 ?_
  refine x_aload_n dX11_tours_139 1 rfl ?_
  refine x_getR fdX11_52 rfl dX11_tours_140 f1.1 f1.2 f3 ?_
  refine x_getI fdX11_129 rfl dX11_tours_143 f4.1 f4.2 ?_
  refine EX.sub [1, 2, 3, 0, 5] (K0.v (As := [.int (mi M 41 0)]) (st := [.int i6]) cvX11_212 dX11_tours_146 rfl rfl f5 rfl (Nat.le_of_ble_eq_true rfl) (k1)) rfl
set_option maxRecDepth 8000 in
theorem qX11_tours_149 {g : GG} {d : Nat} {M : MM} {P : Option Value → MM → Prop} {i2 : Int32} {i3 : Int32} {i5 : Int32} {i7 : Int32} {s0 : Int32} {s1 : Int32} {la lb pa pb rl : Nat} (L : Lay M la lb pa pb rl)
    (k1 : s1 = 0 → K0 g YX11_tours YX11_giveBackByDraw d 164 [.ref 0] [(0, .ref 0), (2, .int i2), (3, .int i3), (5, .int i5), (6, .int (s0 + 1)), (7, .int i7)] [] M P)
    (k2 : ¬ (s1 = 0) → K0 g YX11_tours YX11_giveBackByDraw d 164 [.ref 0] [(0, .ref 0), (2, .int i2), (3, .int i3), (5, .int i5), (6, .int (s0 + 0)), (7, .int i7)] [] M P) :
    E0 g YX11_tours d 149 [(0, .ref 0), (2, .int i2), (3, .int i3), (5, .int i5), (7, .int i7)] [.int s1, .int s0] M P := by
  have f1 : ob M 0 11 := L.s rfl (by decide)
  refine x_if_eq 156 dX11_tours_149 (by decide) (fun c1 => ?_) (fun c1 => ?_)
  · refine x_iconst (v := 1) dX11_tours_156 (by decide) ?_
    refine x_iadd dX11_tours_157 ?_
    refine x_istore (lv1 := [(6, .int (s0 + 1)), (0, .ref 0), (2, .int i2), (3, .int i3), (5, .int i5), (7, .int i7)]) dX11_tours_158 (by decide) rfl ?_
    refine x_aload_n dX11_tours_160 1 rfl ?_
    refine EX.sub [1, 2, 3, 4, 0, 5] (K0.v (As := []) (st := []) cvX11_320 dX11_tours_161 rfl rfl f1 rfl (Nat.le_of_ble_eq_true rfl) (k1 c1)) rfl
  · refine x_iconst (v := 0) dX11_tours_152 (by decide) ?_
    refine x_goto 157 dX11_tours_153 (by decide) ?_
    refine x_iadd dX11_tours_157 ?_
    refine x_istore (lv1 := [(6, .int (s0 + 0)), (0, .ref 0), (2, .int i2), (3, .int i3), (5, .int i5), (7, .int i7)]) dX11_tours_158 (by decide) rfl ?_
    refine x_aload_n dX11_tours_160 1 rfl ?_
    refine EX.sub [1, 2, 3, 4, 0, 5] (K0.v (As := []) (st := []) cvX11_320 dX11_tours_161 rfl rfl f1 rfl (Nat.le_of_ble_eq_true rfl) (k2 c1)) rfl
set_option maxRecDepth 8000 in
theorem qX11_tours_164 {g : GG} {d : Nat} {M : MM} {P : Option Value → MM → Prop} {i2 : Int32} {i3 : Int32} {i5 : Int32} {i6 : Int32} {i7 : Int32}
    (k1 : E0 g YX11_tours d 73 [(0, .ref 0), (2, .int i2), (3, .int i3), (5, .int i5), (6, .int i6), (7, .int (i7 + 1))] [] M P) :
    E0 g YX11_tours d 164 [(0, .ref 0), (2, .int i2), (3, .int i3), (5, .int i5), (6, .int i6), (7, .int i7)] [] M P := by
  refine x_iinc (v := (i7 + 1)) (lv1 := [(7, .int (i7 + 1)), (0, .ref 0), (2, .int i2), (3, .int i3), (5, .int i5), (6, .int i6)]) dX11_tours_164 5 rfl rfl (by decide) rfl ?_
  refine x_goto 73 dX11_tours_167 (by decide) ?_
  exact EX.sub [1, 2, 3, 4, 5, 0] k1 rfl
set_option maxRecDepth 8000 in
theorem qX11_mark_0 {g : GG} {d : Nat} {M : MM} {P : Option Value → MM → Prop} {i1 : Int32} {i2 : Int32} {e1 : Nat} {e2 : Nat} {e3 : Nat} {la lb pa pb rl : Nat} (L : Lay M la lb pa pb rl) (Be1 : Mrk M e1) (Be2 : Mrk M e2) (Be3 : Mrk M e3)
    (h1 : ¬ (i1 < 0) → i1 < 4 → ¬ i2 = 0 → vp_in i1 4)
    (h2 : ¬ (i1 < 0) → i1 < 4 → ¬ i2 = 0 → mr M 80 (i1 : Int32).toNatClampNeg = some e1)
    (h3 : ¬ (i1 < 0) → i1 < 4 → ¬ i2 = 0 → ¬ (mi M e1 0) = 0 → vp_in i1 4)
    (h4 : ¬ (i1 < 0) → i1 < 4 → ¬ i2 = 0 → ¬ (mi M e1 0) = 0 → mr M 80 (i1 : Int32).toNatClampNeg = some e2)
    (h5 : ¬ (i1 < 0) → i1 < 4 → i2 = 0 → vp_in i1 4)
    (h6 : ¬ (i1 < 0) → i1 < 4 → i2 = 0 → mr M 80 (i1 : Int32).toNatClampNeg = some e3)
    (k1 : i1 < 0 → P (some (.int 0)) M)
    (k2 : ¬ (i1 < 0) → i1 < 4 → ¬ i2 = 0 → ¬ (mi M e1 0) = 0 → K0 g YX11_mark YX3_goBack d 73 [.ref e2, .ref 39, .ref pa, .ref 77] [(0, .ref 0)] [] M P)
    (k3 : ¬ (i1 < 0) → i1 < 4 → ¬ i2 = 0 → (mi M e1 0) = 0 → P (some (.int 0)) M)
    (k4 : ¬ (i1 < 0) → i1 < 4 → i2 = 0 → K0 g YX11_mark YX3_lay d 36 [.ref e3, .ref 39, .ref pa, .ref 77] [] [] M P)
    (k5 : ¬ (i1 < 0) → ¬ (i1 < 4) → P (some (.int 0)) M) :
    E0 g YX11_mark d 0 [(0, .ref 0), (1, .int i1), (2, .int i2)] [] M P := by
  have f1 : ob M 0 11 := L.s rfl (by decide)
  have f2 : mr M 0 10 = some 80 := L.r 6 rfl
  have f3 : ar M 80 5 4 := L.s rfl (by decide)
  have f4 : ob M e1 3 := Be1.o
  have f5 : mr M 0 6 = some 39 := L.r 2 rfl
  have f6 : mr M 0 4 = some pa := L.rpa
  have f7 : mr M 0 9 = some 77 := L.r 5 rfl
  have f8 : ob M e2 3 := Be2.o
  have f9 : ob M e3 3 := Be3.o
  refine x_iload_n dX11_mark_0 1 rfl ?_
  refine x_if_lt 9 dX11_mark_1 (by decide) (fun c1 => ?_) (fun c1 => ?_)
  · refine x_iconst (v := 0) dX11_mark_9 (by decide) ?_
    exact x_zret rfl dX11_mark_10 rfl (Nat.le_refl _) (Nat.le_refl _) (k1 c1)
  · refine x_iload_n dX11_mark_4 1 rfl ?_
    refine x_iconst (v := 4) dX11_mark_5 (by decide) ?_
    refine x_ic_lt 11 dX11_mark_6 (by decide) (fun c2 => ?_) (fun c2 => ?_)
    · refine x_iload_n dX11_mark_11 2 rfl ?_
      refine x_if_ne 38 dX11_mark_12 (by decide) (fun c3 => ?_) (fun c3 => ?_)
      · refine x_aload_n dX11_mark_38 0 rfl ?_
        refine x_getR fdX11_71 rfl dX11_mark_39 f1.1 f1.2 f2 ?_
        refine x_iload_n dX11_mark_42 1 rfl ?_
        refine x_aald dX11_mark_43 f3.1 f3.2 (by decide) (h1 c1 c2 c3) (h2 c1 c2 c3) ?_
        refine x_getI fdX11_327 rfl dX11_mark_44 f4.1 f4.2 ?_
        refine x_if_ne 52 dX11_mark_47 (by decide) (fun c4 => ?_) (fun c4 => ?_)
        · refine x_aload_n dX11_mark_52 0 rfl ?_
          refine x_getR fdX11_71 rfl dX11_mark_53 f1.1 f1.2 f2 ?_
          refine x_iload_n dX11_mark_56 1 rfl ?_
          refine x_aald dX11_mark_57 f3.1 f3.2 (by decide) (h3 c1 c2 c3 c4) (h4 c1 c2 c3 c4) ?_
          refine x_aload_n dX11_mark_58 0 rfl ?_
          refine x_getR fdX11_48 rfl dX11_mark_59 f1.1 f1.2 f5 ?_
          refine x_aload_n dX11_mark_62 0 rfl ?_
          refine x_getR fdX11_38 rfl dX11_mark_63 f1.1 f1.2 f6 ?_
          refine x_aload_n dX11_mark_66 0 rfl ?_
          refine x_getR fdX11_65 rfl dX11_mark_67 f1.1 f1.2 f7 ?_
          refine EX.sub [0] (K0.v (As := [.ref 39, .ref pa, .ref 77]) (st := []) cvX11_331 dX11_mark_70 rfl rfl f8 rfl (Nat.le_of_ble_eq_true rfl) (k2 c1 c2 c3 c4)) rfl
        · refine x_iconst (v := 0) dX11_mark_50 (by decide) ?_
          exact x_zret rfl dX11_mark_51 rfl (Nat.le_refl _) (Nat.le_refl _) (k3 c1 c2 c3 c4)
      · refine x_aload_n dX11_mark_15 0 rfl ?_
        refine x_getR fdX11_71 rfl dX11_mark_16 f1.1 f1.2 f2 ?_
        refine x_iload_n dX11_mark_19 1 rfl ?_
        refine x_aald dX11_mark_20 f3.1 f3.2 (by decide) (h5 c1 c2 c3) (h6 c1 c2 c3) ?_
        refine x_aload_n dX11_mark_21 0 rfl ?_
        refine x_getR fdX11_48 rfl dX11_mark_22 f1.1 f1.2 f5 ?_
        refine x_aload_n dX11_mark_25 0 rfl ?_
        refine x_getR fdX11_38 rfl dX11_mark_26 f1.1 f1.2 f6 ?_
        refine x_aload_n dX11_mark_29 0 rfl ?_
        refine x_getR fdX11_65 rfl dX11_mark_30 f1.1 f1.2 f7 ?_
        refine EX.sub [] (K0.v (As := [.ref 39, .ref pa, .ref 77]) (st := []) cvX11_323 dX11_mark_33 rfl rfl f9 rfl (Nat.le_of_ble_eq_true rfl) (k4 c1 c2 c3)) rfl
    · refine x_iconst (v := 0) dX11_mark_9 (by decide) ?_
      exact x_zret rfl dX11_mark_10 rfl (Nat.le_refl _) (Nat.le_refl _) (k5 c1 c2)
set_option maxRecDepth 8000 in
theorem qX11_mark_36 {g : GG} {d : Nat} {M : MM} {P : Option Value → MM → Prop} 
    (k1 : P (some (.int 1)) M) :
    E0 g YX11_mark d 36 [] [] M P := by
  refine x_iconst (v := 1) dX11_mark_36 (by decide) ?_
  exact x_zret rfl dX11_mark_37 rfl (Nat.le_refl _) (Nat.le_refl _) (k1)
set_option maxRecDepth 8000 in
theorem qX11_mark_73 {g : GG} {d : Nat} {M : MM} {P : Option Value → MM → Prop}  {la lb pa pb rl : Nat} (L : Lay M la lb pa pb rl)
    (k1 : K0 g YX11_mark YX4_forget d 80 [.ref 43] [] [] M P) :
    E0 g YX11_mark d 73 [(0, .ref 0)] [] M P := by
  have f1 : ob M 0 11 := L.s rfl (by decide)
  have f2 : mr M 0 8 = some 43 := L.r 4 rfl
  have f3 : ob M 43 4 := L.s rfl (by decide)
  refine x_aload_n dX11_mark_73 0 rfl ?_
  refine x_getR fdX11_58 rfl dX11_mark_74 f1.1 f1.2 f2 ?_
  refine EX.sub [] (K0.v (As := []) (st := []) cvX11_334 dX11_mark_77 rfl rfl f3 rfl (Nat.le_of_ble_eq_true rfl) (k1)) rfl
set_option maxRecDepth 8000 in
theorem qX11_mark_80 {g : GG} {d : Nat} {M : MM} {P : Option Value → MM → Prop} 
    (k1 : P (some (.int 1)) M) :
    E0 g YX11_mark d 80 [] [] M P := by
  refine x_iconst (v := 1) dX11_mark_80 (by decide) ?_
  exact x_zret rfl dX11_mark_81 rfl (Nat.le_refl _) (Nat.le_refl _) (k1)
set_option maxRecDepth 8000 in
theorem qX11_count_0 {g : GG} {d : Nat} {M : MM} {P : Option Value → MM → Prop} {i1 : Int32} {la lb pa pb rl : Nat} (L : Lay M la lb pa pb rl)
    (k1 : (i1 : Int32).toInt < 0 ∨ 10 < (i1 : Int32).toInt → P (some (.int (-1))) M)
    (k2 : (i1 : Int32).toInt = 0 → P (some (.int (mi M la 0))) M)
    (k3 : (i1 : Int32).toInt = 1 → P (some (.int (mi M la 5))) M)
    (k4 : (i1 : Int32).toInt = 2 → P (some (.int (mi M 39 0))) M)
    (k5 : (i1 : Int32).toInt = 3 → K0 g YX11_count YX0_minutesOf d 98 [.ref la, .int (mi M 39 0)] [] [] M P)
    (k6 : (i1 : Int32).toInt = 4 → K0 g YX11_count YX11_nextHall d 103 [.ref 0] [] [] M P)
    (k7 : (i1 : Int32).toInt = 5 → P (some (.int (mi M 39 4))) M)
    (k8 : (i1 : Int32).toInt = 6 → K0 g YX11_count YX10_drawn d 119 [.ref 39] [] [] M P)
    (k9 : (i1 : Int32).toInt = 7 → P (some (.int (mi M pa 0))) M)
    (k10 : (i1 : Int32).toInt = 8 → P (some (.int (mi M 77 2))) M)
    (k11 : (i1 : Int32).toInt = 9 → P (some (.int (mi M 43 2))) M)
    (k12 : (i1 : Int32).toInt = 10 → P (some (.int (mi M 25 2))) M) :
    E0 g YX11_count d 0 [(0, .ref 0), (1, .int i1)] [] M P := by
  have f1 : ob M 0 11 := L.s rfl (by decide)
  have f2 : mr M 0 2 = some la := L.rla
  have f3 : ob M la 0 := L.cla.o
  have f4 : mr M 0 6 = some 39 := L.r 2 rfl
  have f5 : ob M 39 10 := L.s rfl (by decide)
  have f6 : mr M 0 4 = some pa := L.rpa
  have f7 : ob M pa 5 := L.ppa.o
  have f8 : mr M 0 9 = some 77 := L.r 5 rfl
  have f9 : ob M 77 8 := L.s rfl (by decide)
  have f10 : mr M 0 8 = some 43 := L.r 4 rfl
  have f11 : ob M 43 4 := L.s rfl (by decide)
  have f12 : mr M 0 0 = some 25 := L.r 0 rfl
  have f13 : ob M 25 9 := L.s rfl (by decide)
  refine x_iload_n dX11_count_0 1 rfl ?_
  by_cases c1 : (i1 : Int32).toInt < 0 ∨ 10 < (i1 : Int32).toInt
  · refine x_tabOut 152 dX11_count_1 c1 (by decide) ?_
    refine x_iconst (v := (-1)) dX11_count_152 (by decide) ?_
    exact x_iret rfl dX11_count_153 (Nat.le_refl _) (Nat.le_refl _) (k1 c1)
  · have qc1 : (i1 : Int32).toInt = 0 ∨ (i1 : Int32).toInt = 1 ∨ (i1 : Int32).toInt = 2 ∨ (i1 : Int32).toInt = 3 ∨ (i1 : Int32).toInt = 4 ∨ (i1 : Int32).toInt = 5 ∨ (i1 : Int32).toInt = 6 ∨ (i1 : Int32).toInt = 7 ∨ (i1 : Int32).toInt = 8 ∨ (i1 : Int32).toInt = 9 ∨ (i1 : Int32).toInt = 10 := by omega
    clear c1
    rcases qc1 with c1 | c1 | c1 | c1 | c1 | c1 | c1 | c1 | c1 | c1 | c1
    · refine x_tabIn 60 dX11_count_1 (by omega) (by omega) (off := 59) (by rw [show ((i1 : Int32).toInt - 0).toNat = 0 by omega]; rfl) (by decide) ?_
      refine x_aload_n dX11_count_60 0 rfl ?_
      refine x_getR fdX11_10 rfl dX11_count_61 f1.1 f1.2 f2 ?_
      refine x_getI fdX11_246 rfl dX11_count_64 f3.1 f3.2 ?_
      exact x_iret rfl dX11_count_67 (Nat.le_refl _) (Nat.le_refl _) (k2 c1)
    · refine x_tabIn 68 dX11_count_1 (by omega) (by omega) (off := 67) (by rw [show ((i1 : Int32).toInt - 0).toNat = 1 by omega]; rfl) (by decide) ?_
      refine x_aload_n dX11_count_68 0 rfl ?_
      refine x_getR fdX11_10 rfl dX11_count_69 f1.1 f1.2 f2 ?_
      refine x_getI fdX11_149 rfl dX11_count_72 f3.1 f3.2 ?_
      exact x_iret rfl dX11_count_75 (Nat.le_refl _) (Nat.le_refl _) (k3 c1)
    · refine x_tabIn 76 dX11_count_1 (by omega) (by omega) (off := 75) (by rw [show ((i1 : Int32).toInt - 0).toNat = 2 by omega]; rfl) (by decide) ?_
      refine x_aload_n dX11_count_76 0 rfl ?_
      refine x_getR fdX11_48 rfl dX11_count_77 f1.1 f1.2 f4 ?_
      refine x_getI fdX11_129 rfl dX11_count_80 f5.1 f5.2 ?_
      exact x_iret rfl dX11_count_83 (Nat.le_refl _) (Nat.le_refl _) (k4 c1)
    · refine x_tabIn 84 dX11_count_1 (by omega) (by omega) (off := 83) (by rw [show ((i1 : Int32).toInt - 0).toNat = 3 by omega]; rfl) (by decide) ?_
      refine x_aload_n dX11_count_84 0 rfl ?_
      refine x_getR fdX11_10 rfl dX11_count_85 f1.1 f1.2 f2 ?_
      refine x_aload_n dX11_count_88 0 rfl ?_
      refine x_getR fdX11_48 rfl dX11_count_89 f1.1 f1.2 f4 ?_
      refine x_getI fdX11_129 rfl dX11_count_92 f5.1 f5.2 ?_
      refine EX.sub [] (K0.v (As := [.int (mi M 39 0)]) (st := []) cvX11_159 dX11_count_95 rfl rfl f3 rfl (Nat.le_of_ble_eq_true rfl) (k5 c1)) rfl
    · refine x_tabIn 99 dX11_count_1 (by omega) (by omega) (off := 98) (by rw [show ((i1 : Int32).toInt - 0).toNat = 4 by omega]; rfl) (by decide) ?_
      refine x_aload_n dX11_count_99 0 rfl ?_
      refine EX.sub [] (K0.v (As := []) (st := []) cvX11_183 dX11_count_100 rfl rfl f1 rfl (Nat.le_of_ble_eq_true rfl) (k6 c1)) rfl
    · refine x_tabIn 104 dX11_count_1 (by omega) (by omega) (off := 103) (by rw [show ((i1 : Int32).toInt - 0).toNat = 5 by omega]; rfl) (by decide) ?_
      refine x_aload_n dX11_count_104 0 rfl ?_
      refine x_getR fdX11_48 rfl dX11_count_105 f1.1 f1.2 f4 ?_
      refine x_getI fdX11_337 rfl dX11_count_108 f5.1 f5.2 ?_
      exact x_iret rfl dX11_count_111 (Nat.le_refl _) (Nat.le_refl _) (k7 c1)
    · refine x_tabIn 112 dX11_count_1 (by omega) (by omega) (off := 111) (by rw [show ((i1 : Int32).toInt - 0).toNat = 6 by omega]; rfl) (by decide) ?_
      refine x_aload_n dX11_count_112 0 rfl ?_
      refine x_getR fdX11_48 rfl dX11_count_113 f1.1 f1.2 f4 ?_
      refine EX.sub [] (K0.v (As := []) (st := []) cvX11_276 dX11_count_116 rfl rfl f5 rfl (Nat.le_of_ble_eq_true rfl) (k8 c1)) rfl
    · refine x_tabIn 120 dX11_count_1 (by omega) (by omega) (off := 119) (by rw [show ((i1 : Int32).toInt - 0).toNat = 7 by omega]; rfl) (by decide) ?_
      refine x_aload_n dX11_count_120 0 rfl ?_
      refine x_getR fdX11_38 rfl dX11_count_121 f1.1 f1.2 f6 ?_
      refine x_getI fdX11_198 rfl dX11_count_124 f7.1 f7.2 ?_
      exact x_iret rfl dX11_count_127 (Nat.le_refl _) (Nat.le_refl _) (k9 c1)
    · refine x_tabIn 128 dX11_count_1 (by omega) (by omega) (off := 127) (by rw [show ((i1 : Int32).toInt - 0).toNat = 8 by omega]; rfl) (by decide) ?_
      refine x_aload_n dX11_count_128 0 rfl ?_
      refine x_getR fdX11_65 rfl dX11_count_129 f1.1 f1.2 f8 ?_
      refine x_getI fdX11_340 rfl dX11_count_132 f9.1 f9.2 ?_
      exact x_iret rfl dX11_count_135 (Nat.le_refl _) (Nat.le_refl _) (k10 c1)
    · refine x_tabIn 136 dX11_count_1 (by omega) (by omega) (off := 135) (by rw [show ((i1 : Int32).toInt - 0).toNat = 9 by omega]; rfl) (by decide) ?_
      refine x_aload_n dX11_count_136 0 rfl ?_
      refine x_getR fdX11_58 rfl dX11_count_137 f1.1 f1.2 f10 ?_
      refine x_getI fdX11_341 rfl dX11_count_140 f11.1 f11.2 ?_
      exact x_iret rfl dX11_count_143 (Nat.le_refl _) (Nat.le_refl _) (k11 c1)
    · refine x_tabIn 144 dX11_count_1 (by omega) (by omega) (off := 143) (by rw [show ((i1 : Int32).toInt - 0).toNat = 10 by omega]; rfl) (by decide) ?_
      refine x_aload_n dX11_count_144 0 rfl ?_
      refine x_getR fdX11_22 rfl dX11_count_145 f1.1 f1.2 f12 ?_
      refine x_getI fdX11_98 rfl dX11_count_148 f13.1 f13.2 ?_
      exact x_iret rfl dX11_count_151 (Nat.le_refl _) (Nat.le_refl _) (k12 c1)
set_option maxRecDepth 8000 in
theorem qX11_count_98 {g : GG} {d : Nat} {M : MM} {P : Option Value → MM → Prop} {s0 : Int32}
    (k1 : P (some (.int s0)) M) :
    E0 g YX11_count d 98 [] [.int s0] M P := by
  exact x_iret rfl dX11_count_98 (Nat.le_refl _) (Nat.le_refl _) (k1)
set_option maxRecDepth 8000 in
theorem qX11_count_103 {g : GG} {d : Nat} {M : MM} {P : Option Value → MM → Prop} {s0 : Int32}
    (k1 : P (some (.int s0)) M) :
    E0 g YX11_count d 103 [] [.int s0] M P := by
  exact x_iret rfl dX11_count_103 (Nat.le_refl _) (Nat.le_refl _) (k1)
set_option maxRecDepth 8000 in
theorem qX11_count_119 {g : GG} {d : Nat} {M : MM} {P : Option Value → MM → Prop} {s0 : Int32}
    (k1 : P (some (.int s0)) M) :
    E0 g YX11_count d 119 [] [.int s0] M P := by
  exact x_iret rfl dX11_count_119 (Nat.le_refl _) (Nat.le_refl _) (k1)
set_option maxRecDepth 8000 in
theorem qX11_beginAnew_0 {g : GG} {d : Nat} {M : MM} {P : Option Value → MM → Prop}  {la lb pa pb rl : Nat} (L : Lay M la lb pa pb rl)
    (k1 : K0 g YX11_beginAnew YX0_film d 11 [.ref la] [(0, .ref 0)] [.ref 39] M P) :
    E0 g YX11_beginAnew d 0 [(0, .ref 0)] [] M P := by
  have f1 : ob M 0 11 := L.s rfl (by decide)
  have f2 : mr M 0 6 = some 39 := L.r 2 rfl
  have f3 : mr M 0 2 = some la := L.rla
  have f4 : ob M la 0 := L.cla.o
  refine x_aload_n dX11_beginAnew_0 0 rfl ?_
  refine x_getR fdX11_48 rfl dX11_beginAnew_1 f1.1 f1.2 f2 ?_
  refine x_aload_n dX11_beginAnew_4 0 rfl ?_
  refine x_getR fdX11_10 rfl dX11_beginAnew_5 f1.1 f1.2 f3 ?_
  refine EX.sub [0] (K0.v (As := []) (st := [.ref 39]) cvX11_191 dX11_beginAnew_8 rfl rfl f4 rfl (Nat.le_of_ble_eq_true rfl) (k1)) rfl
set_option maxRecDepth 8000 in
theorem qX11_beginAnew_11 {g : GG} {d : Nat} {M : MM} {P : Option Value → MM → Prop} {s0 : Nat} {s1 : Int32}
    (h1 : ob M s0 10)
    (k1 : K0 g YX11_beginAnew YX10_begin d 14 [.ref s0, .int s1] [(0, .ref 0)] [] M P) :
    E0 g YX11_beginAnew d 11 [(0, .ref 0)] [.int s1, .ref s0] M P := by
  refine EX.sub [0] (K0.v (As := [.int s1]) (st := []) cvX11_194 dX11_beginAnew_11 rfl rfl h1 rfl (Nat.le_of_ble_eq_true rfl) (k1)) rfl
set_option maxRecDepth 8000 in
theorem qX11_beginAnew_14 {g : GG} {d : Nat} {M : MM} {P : Option Value → MM → Prop}  {la lb pa pb rl : Nat} (L : Lay M la lb pa pb rl)
    (k1 : K0 g YX11_beginAnew YX5_clear d 21 [.ref pa] [(0, .ref 0)] [] M P) :
    E0 g YX11_beginAnew d 14 [(0, .ref 0)] [] M P := by
  have f1 : ob M 0 11 := L.s rfl (by decide)
  have f2 : mr M 0 4 = some pa := L.rpa
  have f3 : ob M pa 5 := L.ppa.o
  refine x_aload_n dX11_beginAnew_14 0 rfl ?_
  refine x_getR fdX11_38 rfl dX11_beginAnew_15 f1.1 f1.2 f2 ?_
  refine EX.sub [0] (K0.v (As := []) (st := []) cvX11_342 dX11_beginAnew_18 rfl rfl f3 rfl (Nat.le_of_ble_eq_true rfl) (k1)) rfl
set_option maxRecDepth 8000 in
theorem qX11_beginAnew_21 {g : GG} {d : Nat} {M : MM} {P : Option Value → MM → Prop}  {M1 : MM} {la lb pa pb rl : Nat} (L : Lay M la lb pa pb rl)
    (qM1 : M1 = wi M 77 2 0)
    (k1 : K0 g YX11_beginAnew YX4_forget d 36 [.ref 43] [(0, .ref 0)] [] M1 P) :
    E0 g YX11_beginAnew d 21 [(0, .ref 0)] [] M P := by
  have f1 : ob M 0 11 := L.s rfl (by decide)
  have f2 : mr M 0 9 = some 77 := L.r 5 rfl
  have f3 : ob M 77 8 := L.s rfl (by decide)
  have f4 : mr M 0 8 = some 43 := L.r 4 rfl
  have f5 : ob M 43 4 := L.s rfl (by decide)
  subst qM1
  refine x_aload_n dX11_beginAnew_21 0 rfl ?_
  refine x_getR fdX11_65 rfl dX11_beginAnew_22 f1.1 f1.2 f2 ?_
  refine x_iconst (v := 0) dX11_beginAnew_25 (by decide) ?_
  refine x_putI fdX11_340 rfl (Or.inl rfl) dX11_beginAnew_26 f3.1 f3.2 rfl rfl ?_
  refine x_aload_n dX11_beginAnew_29 0 rfl ?_
  refine x_getR fdX11_58 rfl dX11_beginAnew_30 f1.1 f1.2 f4 ?_
  refine EX.sub [0] (K0.v (As := []) (st := []) cvX11_334 dX11_beginAnew_33 rfl rfl f5 rfl (Nat.le_of_ble_eq_true rfl) (k1)) rfl
set_option maxRecDepth 8000 in
theorem qX11_beginAnew_36 {g : GG} {d : Nat} {M : MM} {P : Option Value → MM → Prop} 
    (k1 : E0 g YX11_beginAnew d 38 [(0, .ref 0), (1, .int 0)] [] M P) :
    E0 g YX11_beginAnew d 36 [(0, .ref 0)] [] M P := by
  refine x_iconst (v := 0) dX11_beginAnew_36 (by decide) ?_
  refine x_istore_n (lv1 := [(1, .int 0), (0, .ref 0)]) dX11_beginAnew_37 (by decide) rfl ?_
  exact EX.sub [1, 0] k1 rfl
set_option maxRecDepth 8000 in
theorem qX11_beginAnew_38 {g : GG} {d : Nat} {M : MM} {P : Option Value → MM → Prop} {i1 : Int32} {e1 : Nat} {M1 : MM} {la lb pa pb rl : Nat} (L : Lay M la lb pa pb rl) (Be1 : Mrk M e1)
    (qM1 : M1 = wi M e1 0 0)
    (h1 : ¬ (4 ≤ i1) → vp_in i1 4)
    (h2 : ¬ (4 ≤ i1) → mr M 80 (i1 : Int32).toNatClampNeg = some e1)
    (k1 : 4 ≤ i1 → P none M)
    (k2 : ¬ (4 ≤ i1) → E0 g YX11_beginAnew d 38 [(0, .ref 0), (1, .int (i1 + 1))] [] M1 P) :
    E0 g YX11_beginAnew d 38 [(0, .ref 0), (1, .int i1)] [] M P := by
  have f1 : ob M 0 11 := L.s rfl (by decide)
  have f2 : mr M 0 10 = some 80 := L.r 6 rfl
  have f3 : ar M 80 5 4 := L.s rfl (by decide)
  have f4 : ob M e1 3 := Be1.o
  subst qM1
  refine x_iload_n dX11_beginAnew_38 1 rfl ?_
  refine x_iconst (v := 4) dX11_beginAnew_39 (by decide) ?_
  refine x_ic_ge 59 dX11_beginAnew_40 (by decide) (fun c1 => ?_) (fun c1 => ?_)
  · exact x_vret rfl dX11_beginAnew_59 (Nat.le_refl _) (Nat.le_refl _) (k1 c1)
  · refine x_aload_n dX11_beginAnew_43 0 rfl ?_
    refine x_getR fdX11_71 rfl dX11_beginAnew_44 f1.1 f1.2 f2 ?_
    refine x_iload_n dX11_beginAnew_47 1 rfl ?_
    refine x_aald dX11_beginAnew_48 f3.1 f3.2 (by decide) (h1 c1) (h2 c1) ?_
    refine x_iconst (v := 0) dX11_beginAnew_49 (by decide) ?_
    refine x_putI fdX11_327 rfl (Or.inl rfl) dX11_beginAnew_50 f4.1 f4.2 (by decide) (by decide) ?_
    refine x_iinc (v := (i1 + 1)) (lv1 := [(1, .int (i1 + 1)), (0, .ref 0)]) dX11_beginAnew_53 1 rfl rfl (by decide) rfl ?_
    refine x_goto 38 dX11_beginAnew_56 (by decide) ?_
    exact EX.sub [1, 0] (k2 c1) rfl
set_option maxRecDepth 8000 in
theorem qX11_liesIn_0 {g : GG} {d : Nat} {M : MM} {P : Option Value → MM → Prop} {i1 : Int32} {i2 : Int32} {la lb pa pb rl : Nat} (L : Lay M la lb pa pb rl)
    (k1 : K0 g YX11_liesIn YX0_isHall d 8 [.ref la, .int i1] [(0, .ref 0), (1, .int i1), (2, .int i2)] [] M P) :
    E0 g YX11_liesIn d 0 [(0, .ref 0), (1, .int i1), (2, .int i2)] [] M P := by
  have f1 : ob M 0 11 := L.s rfl (by decide)
  have f2 : mr M 0 2 = some la := L.rla
  have f3 : ob M la 0 := L.cla.o
  refine x_aload_n dX11_liesIn_0 0 rfl ?_
  refine x_getR fdX11_10 rfl dX11_liesIn_1 f1.1 f1.2 f2 ?_
  refine x_iload_n dX11_liesIn_4 1 rfl ?_
  refine EX.sub [0, 1, 2] (K0.v (As := [.int i1]) (st := []) cvX11_132 dX11_liesIn_5 rfl rfl f3 rfl (Nat.le_of_ble_eq_true rfl) (k1)) rfl
set_option maxRecDepth 8000 in
theorem qX11_liesIn_8 {g : GG} {d : Nat} {M : MM} {P : Option Value → MM → Prop} {i1 : Int32} {i2 : Int32} {s0 : Int32} {la lb pa pb rl : Nat} (L : Lay M la lb pa pb rl)
    (k1 : s0 = 0 → P (some (.int 0)) M)
    (k2 : ¬ (s0 = 0) → K0 g YX11_liesIn YX0_isShot d 19 [.ref la, .int i2] [(0, .ref 0), (1, .int i1), (2, .int i2)] [] M P) :
    E0 g YX11_liesIn d 8 [(0, .ref 0), (1, .int i1), (2, .int i2)] [.int s0] M P := by
  have f1 : ob M 0 11 := L.s rfl (by decide)
  have f2 : mr M 0 2 = some la := L.rla
  have f3 : ob M la 0 := L.cla.o
  refine x_if_eq 38 dX11_liesIn_8 (by decide) (fun c1 => ?_) (fun c1 => ?_)
  · refine x_iconst (v := 0) dX11_liesIn_38 (by decide) ?_
    exact x_zret rfl dX11_liesIn_39 rfl (Nat.le_refl _) (Nat.le_refl _) (k1 c1)
  · refine x_aload_n dX11_liesIn_11 0 rfl ?_
    refine x_getR fdX11_10 rfl dX11_liesIn_12 f1.1 f1.2 f2 ?_
    refine x_iload_n dX11_liesIn_15 2 rfl ?_
    refine EX.sub [0, 1, 2] (K0.v (As := [.int i2]) (st := []) cvX11_116 dX11_liesIn_16 rfl rfl f3 rfl (Nat.le_of_ble_eq_true rfl) (k2 c1)) rfl
set_option maxRecDepth 8000 in
theorem qX11_liesIn_19 {g : GG} {d : Nat} {M : MM} {P : Option Value → MM → Prop} {i1 : Int32} {i2 : Int32} {s0 : Int32} {la lb pa pb rl : Nat} (L : Lay M la lb pa pb rl)
    (k1 : s0 = 0 → P (some (.int 0)) M)
    (k2 : ¬ (s0 = 0) → K0 g YX11_liesIn YX10_holds d 31 [.ref 39, .int i1, .int i2] [] [] M P) :
    E0 g YX11_liesIn d 19 [(0, .ref 0), (1, .int i1), (2, .int i2)] [.int s0] M P := by
  have f1 : ob M 0 11 := L.s rfl (by decide)
  have f2 : mr M 0 6 = some 39 := L.r 2 rfl
  have f3 : ob M 39 10 := L.s rfl (by decide)
  refine x_if_eq 38 dX11_liesIn_19 (by decide) (fun c1 => ?_) (fun c1 => ?_)
  · refine x_iconst (v := 0) dX11_liesIn_38 (by decide) ?_
    exact x_zret rfl dX11_liesIn_39 rfl (Nat.le_refl _) (Nat.le_refl _) (k1 c1)
  · refine x_aload_n dX11_liesIn_22 0 rfl ?_
    refine x_getR fdX11_48 rfl dX11_liesIn_23 f1.1 f1.2 f2 ?_
    refine x_iload_n dX11_liesIn_26 1 rfl ?_
    refine x_iload_n dX11_liesIn_27 2 rfl ?_
    refine EX.sub [] (K0.v (As := [.int i1, .int i2]) (st := []) cvX11_345 dX11_liesIn_28 rfl rfl f3 rfl (Nat.le_of_ble_eq_true rfl) (k2 c1)) rfl
set_option maxRecDepth 8000 in
theorem qX11_liesIn_31 {g : GG} {d : Nat} {M : MM} {P : Option Value → MM → Prop} {s0 : Int32}
    (k1 : s0 = 0 → P (some (.int 0)) M)
    (k2 : ¬ (s0 = 0) → P (some (.int 1)) M) :
    E0 g YX11_liesIn d 31 [] [.int s0] M P := by
  refine x_if_eq 38 dX11_liesIn_31 (by decide) (fun c1 => ?_) (fun c1 => ?_)
  · refine x_iconst (v := 0) dX11_liesIn_38 (by decide) ?_
    exact x_zret rfl dX11_liesIn_39 rfl (Nat.le_refl _) (Nat.le_refl _) (k1 c1)
  · refine x_iconst (v := 1) dX11_liesIn_34 (by decide) ?_
    refine x_goto 39 dX11_liesIn_35 (by decide) ?_
    exact x_zret rfl dX11_liesIn_39 rfl (Nat.le_refl _) (Nat.le_refl _) (k2 c1)
set_option maxRecDepth 8000 in
theorem qX11_nextHall_0 {g : GG} {d : Nat} {M : MM} {P : Option Value → MM → Prop}  {la lb pa pb rl : Nat} (L : Lay M la lb pa pb rl)
    (k1 : ¬ (mi M la 5) = 0 → P (some (.int (mi M 39 3))) M)
    (k2 : (mi M la 5) = 0 → P (some (.int (-1))) M) :
    E0 g YX11_nextHall d 0 [(0, .ref 0)] [] M P := by
  have f1 : ob M 0 11 := L.s rfl (by decide)
  have f2 : mr M 0 2 = some la := L.rla
  have f3 : ob M la 0 := L.cla.o
  have f4 : mr M 0 6 = some 39 := L.r 2 rfl
  have f5 : ob M 39 10 := L.s rfl (by decide)
  refine x_aload_n dX11_nextHall_0 0 rfl ?_
  refine x_getR fdX11_10 rfl dX11_nextHall_1 f1.1 f1.2 f2 ?_
  refine x_getI fdX11_149 rfl dX11_nextHall_4 f3.1 f3.2 ?_
  refine x_if_ne 14 dX11_nextHall_7 (by decide) (fun c1 => ?_) (fun c1 => ?_)
  · refine x_aload_n dX11_nextHall_14 0 rfl ?_
    refine x_getR fdX11_48 rfl dX11_nextHall_15 f1.1 f1.2 f4 ?_
    refine x_getI fdX11_348 rfl dX11_nextHall_18 f5.1 f5.2 ?_
    exact x_iret rfl dX11_nextHall_21 (Nat.le_refl _) (Nat.le_refl _) (k1 c1)
  · refine x_iconst (v := (-1)) dX11_nextHall_10 (by decide) ?_
    refine x_goto 21 dX11_nextHall_11 (by decide) ?_
    exact x_iret rfl dX11_nextHall_21 (Nat.le_refl _) (Nat.le_refl _) (k2 c1)
set_option maxRecDepth 8000 in
theorem qX11_nextPlace_0 {g : GG} {d : Nat} {M : MM} {P : Option Value → MM → Prop}  {la lb pa pb rl : Nat} (L : Lay M la lb pa pb rl)
    (k1 : ¬ (mi M la 5) = 0 → K0 g YX11_nextPlace YX10_swapPlace d 32 [.ref 39, .ref la, .int (mi M 39 3)] [] [] M P)
    (k2 : (mi M la 5) = 0 → E0 g YX11_nextPlace d 32 [] [.int 0] M P) :
    E0 g YX11_nextPlace d 0 [(0, .ref 0)] [] M P := by
  have f1 : ob M 0 11 := L.s rfl (by decide)
  have f2 : mr M 0 2 = some la := L.rla
  have f3 : ob M la 0 := L.cla.o
  have f4 : mr M 0 6 = some 39 := L.r 2 rfl
  have f5 : ob M 39 10 := L.s rfl (by decide)
  refine x_aload_n dX11_nextPlace_0 0 rfl ?_
  refine x_getR fdX11_10 rfl dX11_nextPlace_1 f1.1 f1.2 f2 ?_
  refine x_getI fdX11_149 rfl dX11_nextPlace_4 f3.1 f3.2 ?_
  refine x_if_ne 14 dX11_nextPlace_7 (by decide) (fun c1 => ?_) (fun c1 => ?_)
  · refine x_aload_n dX11_nextPlace_14 0 rfl ?_
    refine x_getR fdX11_48 rfl dX11_nextPlace_15 f1.1 f1.2 f4 ?_
    refine x_aload_n dX11_nextPlace_18 0 rfl ?_
    refine x_getR fdX11_10 rfl dX11_nextPlace_19 f1.1 f1.2 f2 ?_
    refine x_aload_n dX11_nextPlace_22 0 rfl ?_
    refine x_getR fdX11_48 rfl dX11_nextPlace_23 f1.1 f1.2 f4 ?_
    refine x_getI fdX11_348 rfl dX11_nextPlace_26 f5.1 f5.2 ?_
    refine EX.sub [] (K0.v (As := [.ref la, .int (mi M 39 3)]) (st := []) cvX11_141 dX11_nextPlace_29 rfl rfl f5 rfl (Nat.le_of_ble_eq_true rfl) (k1 c1)) rfl
  · refine x_iconst (v := 0) dX11_nextPlace_10 (by decide) ?_
    refine x_goto 32 dX11_nextPlace_11 (by decide) ?_
    exact EX.sub [] (k2 c1) rfl
set_option maxRecDepth 8000 in
theorem qX11_nextPlace_32 {g : GG} {d : Nat} {M : MM} {P : Option Value → MM → Prop} {s0 : Int32}
    (k1 : P (some (.int s0)) M) :
    E0 g YX11_nextPlace d 32 [] [.int s0] M P := by
  exact x_iret rfl dX11_nextPlace_32 (Nat.le_refl _) (Nat.le_refl _) (k1)
set_option maxRecDepth 8000 in
theorem qX11_isAhead_0 {g : GG} {d : Nat} {M : MM} {P : Option Value → MM → Prop} {i1 : Int32} {la lb pa pb rl : Nat} (L : Lay M la lb pa pb rl)
    (k1 : K0 g YX11_isAhead YX0_isHall d 8 [.ref la, .int i1] [(0, .ref 0), (1, .int i1)] [] M P) :
    E0 g YX11_isAhead d 0 [(0, .ref 0), (1, .int i1)] [] M P := by
  have f1 : ob M 0 11 := L.s rfl (by decide)
  have f2 : mr M 0 2 = some la := L.rla
  have f3 : ob M la 0 := L.cla.o
  refine x_aload_n dX11_isAhead_0 0 rfl ?_
  refine x_getR fdX11_10 rfl dX11_isAhead_1 f1.1 f1.2 f2 ?_
  refine x_iload_n dX11_isAhead_4 1 rfl ?_
  refine EX.sub [0, 1] (K0.v (As := [.int i1]) (st := []) cvX11_132 dX11_isAhead_5 rfl rfl f3 rfl (Nat.le_of_ble_eq_true rfl) (k1)) rfl
set_option maxRecDepth 8000 in
theorem qX11_isAhead_8 {g : GG} {d : Nat} {M : MM} {P : Option Value → MM → Prop} {i1 : Int32} {s0 : Int32} {la lb pa pb rl : Nat} (L : Lay M la lb pa pb rl)
    (k1 : s0 = 0 → P (some (.int 0)) M)
    (k2 : ¬ (s0 = 0) → K0 g YX11_isAhead YX10_swapPlace d 23 [.ref 39, .ref la, .int i1] [(0, .ref 0)] [] M P) :
    E0 g YX11_isAhead d 8 [(0, .ref 0), (1, .int i1)] [.int s0] M P := by
  have f1 : ob M 0 11 := L.s rfl (by decide)
  have f2 : mr M 0 6 = some 39 := L.r 2 rfl
  have f3 : mr M 0 2 = some la := L.rla
  have f4 : ob M 39 10 := L.s rfl (by decide)
  refine x_if_eq 34 dX11_isAhead_8 (by decide) (fun c1 => ?_) (fun c1 => ?_)
  · refine x_iconst (v := 0) dX11_isAhead_34 (by decide) ?_
    exact x_zret rfl dX11_isAhead_35 rfl (Nat.le_refl _) (Nat.le_refl _) (k1 c1)
  · refine x_aload_n dX11_isAhead_11 0 rfl ?_
    refine x_getR fdX11_48 rfl dX11_isAhead_12 f1.1 f1.2 f2 ?_
    refine x_aload_n dX11_isAhead_15 0 rfl ?_
    refine x_getR fdX11_10 rfl dX11_isAhead_16 f1.1 f1.2 f3 ?_
    refine x_iload_n dX11_isAhead_19 1 rfl ?_
    refine EX.sub [0] (K0.v (As := [.ref la, .int i1]) (st := []) cvX11_141 dX11_isAhead_20 rfl rfl f4 rfl (Nat.le_of_ble_eq_true rfl) (k2 c1)) rfl
set_option maxRecDepth 8000 in
theorem qX11_isAhead_23 {g : GG} {d : Nat} {M : MM} {P : Option Value → MM → Prop} {s0 : Int32} {la lb pa pb rl : Nat} (L : Lay M la lb pa pb rl)
    (k1 : K0 g YX11_isAhead YX11_nextPlace d 27 [.ref 0] [] [.int s0] M P) :
    E0 g YX11_isAhead d 23 [(0, .ref 0)] [.int s0] M P := by
  have f1 : ob M 0 11 := L.s rfl (by decide)
  refine x_aload_n dX11_isAhead_23 0 rfl ?_
  refine EX.sub [] (K0.v (As := []) (st := [.int s0]) cvX11_221 dX11_isAhead_24 rfl rfl f1 rfl (Nat.le_of_ble_eq_true rfl) (k1)) rfl
set_option maxRecDepth 8000 in
theorem qX11_isAhead_27 {g : GG} {d : Nat} {M : MM} {P : Option Value → MM → Prop} {s0 : Int32} {s1 : Int32}
    (k1 : s0 < s1 → P (some (.int 0)) M)
    (k2 : ¬ (s0 < s1) → P (some (.int 1)) M) :
    E0 g YX11_isAhead d 27 [] [.int s1, .int s0] M P := by
  refine x_ic_lt 34 dX11_isAhead_27 (by decide) (fun c1 => ?_) (fun c1 => ?_)
  · refine x_iconst (v := 0) dX11_isAhead_34 (by decide) ?_
    exact x_zret rfl dX11_isAhead_35 rfl (Nat.le_refl _) (Nat.le_refl _) (k1 c1)
  · refine x_iconst (v := 1) dX11_isAhead_30 (by decide) ?_
    refine x_goto 35 dX11_isAhead_31 (by decide) ?_
    exact x_zret rfl dX11_isAhead_35 rfl (Nat.le_refl _) (Nat.le_refl _) (k2 c1)
set_option maxRecDepth 8000 in
theorem qX11_hallsAhead_0 {g : GG} {d : Nat} {M : MM} {P : Option Value → MM → Prop}  {la lb pa pb rl : Nat} (L : Lay M la lb pa pb rl)
    (k1 : K0 g YX11_hallsAhead YX11_nextPlace d 6 [.ref 0] [(0, .ref 0), (1, .int 0)] [] M P) :
    E0 g YX11_hallsAhead d 0 [(0, .ref 0)] [] M P := by
  have f1 : ob M 0 11 := L.s rfl (by decide)
  refine x_iconst (v := 0) dX11_hallsAhead_0 (by decide) ?_
  refine x_istore_n (lv1 := [(1, .int 0), (0, .ref 0)]) dX11_hallsAhead_1 (by decide) rfl ?_
  refine x_aload_n dX11_hallsAhead_2 1 rfl ?_
  refine EX.sub [1, 0] (K0.v (As := []) (st := []) cvX11_221 dX11_hallsAhead_3 rfl rfl f1 rfl (Nat.le_of_ble_eq_true rfl) (k1)) rfl
set_option maxRecDepth 8000 in
theorem qX11_hallsAhead_6 {g : GG} {d : Nat} {M : MM} {P : Option Value → MM → Prop} {i1 : Int32} {s0 : Int32}
    (k1 : E0 g YX11_hallsAhead d 7 [(0, .ref 0), (1, .int i1), (2, .int s0)] [] M P) :
    E0 g YX11_hallsAhead d 6 [(0, .ref 0), (1, .int i1)] [.int s0] M P := by
  refine x_istore_n (lv1 := [(2, .int s0), (0, .ref 0), (1, .int i1)]) dX11_hallsAhead_6 (by decide) rfl ?_
  exact EX.sub [1, 2, 0] k1 rfl
set_option maxRecDepth 8000 in
theorem qX11_hallsAhead_7 {g : GG} {d : Nat} {M : MM} {P : Option Value → MM → Prop} {i1 : Int32} {i2 : Int32} {la lb pa pb rl : Nat} (L : Lay M la lb pa pb rl)
    (k1 : (mi M la 5) ≤ i2 → P (some (.int i1)) M)
    (k2 : ¬ ((mi M la 5) ≤ i2) → K0 g YX11_hallsAhead YX10_swapPlace d 32 [.ref 39, .ref la, .int i2] [(0, .ref 0), (2, .int i2)] [.int 1, .int i1] M P) :
    E0 g YX11_hallsAhead d 7 [(0, .ref 0), (1, .int i1), (2, .int i2)] [] M P := by
  have f1 : ob M 0 11 := L.s rfl (by decide)
  have f2 : mr M 0 2 = some la := L.rla
  have f3 : ob M la 0 := L.cla.o
  have f4 : mr M 0 6 = some 39 := L.r 2 rfl
  have f5 : ob M 39 10 := L.s rfl (by decide)
  refine x_iload_n dX11_hallsAhead_7 2 rfl ?_
  refine x_aload_n dX11_hallsAhead_8 0 rfl ?_
  refine x_getR fdX11_10 rfl dX11_hallsAhead_9 f1.1 f1.2 f2 ?_
  refine x_getI fdX11_149 rfl dX11_hallsAhead_12 f3.1 f3.2 ?_
  refine x_ic_ge 41 dX11_hallsAhead_15 (by decide) (fun c1 => ?_) (fun c1 => ?_)
  · refine x_iload_n dX11_hallsAhead_41 1 rfl ?_
    exact x_iret rfl dX11_hallsAhead_42 (Nat.le_refl _) (Nat.le_refl _) (k1 c1)
  · refine x_iload_n dX11_hallsAhead_18 1 rfl ?_
    refine x_iconst (v := 1) dX11_hallsAhead_19 (by decide) ?_
    refine x_aload_n dX11_hallsAhead_20 0 rfl ?_
    refine x_getR fdX11_48 rfl dX11_hallsAhead_21 f1.1 f1.2 f4 ?_
    refine x_aload_n dX11_hallsAhead_24 0 rfl ?_
    refine x_getR fdX11_10 rfl dX11_hallsAhead_25 f1.1 f1.2 f2 ?_
    refine x_iload_n dX11_hallsAhead_28 2 rfl ?_
    refine EX.sub [0, 2] (K0.v (As := [.ref la, .int i2]) (st := [.int 1, .int i1]) cvX11_141 dX11_hallsAhead_29 rfl rfl f5 rfl (Nat.le_of_ble_eq_true rfl) (k2 c1)) rfl
set_option maxRecDepth 8000 in
theorem qX11_hallsAhead_32 {g : GG} {d : Nat} {M : MM} {P : Option Value → MM → Prop} {i2 : Int32} {s0 : Int32} {s1 : Int32} {s2 : Int32}
    (k1 : E0 g YX11_hallsAhead d 7 [(0, .ref 0), (1, .int (s0 ||| (s1 <<< (s2 &&& 31)))), (2, .int (i2 + 1))] [] M P) :
    E0 g YX11_hallsAhead d 32 [(0, .ref 0), (2, .int i2)] [.int s2, .int s1, .int s0] M P := by
  refine x_ishl dX11_hallsAhead_32 ?_
  refine x_ior dX11_hallsAhead_33 ?_
  refine x_istore_n (lv1 := [(1, .int (s0 ||| (s1 <<< (s2 &&& 31)))), (0, .ref 0), (2, .int i2)]) dX11_hallsAhead_34 (by decide) rfl ?_
  refine x_iinc (v := (i2 + 1)) (lv1 := [(2, .int (i2 + 1)), (1, .int (s0 ||| (s1 <<< (s2 &&& 31)))), (0, .ref 0)]) dX11_hallsAhead_35 2 rfl rfl (by decide) rfl ?_
  refine x_goto 7 dX11_hallsAhead_38 (by decide) ?_
  exact EX.sub [2, 1, 0] k1 rfl
set_option maxRecDepth 8000 in
theorem qX11_rowShownAt_0 {g : GG} {d : Nat} {M : MM} {P : Option Value → MM → Prop} {i1 : Int32} {la lb pa pb rl : Nat} (L : Lay M la lb pa pb rl)
    (k1 : K0 g YX11_rowShownAt YX11_isAhead d 5 [.ref 0, .int i1] [(0, .ref 0), (1, .int i1)] [] M P) :
    E0 g YX11_rowShownAt d 0 [(0, .ref 0), (1, .int i1)] [] M P := by
  have f1 : ob M 0 11 := L.s rfl (by decide)
  refine x_aload_n dX11_rowShownAt_0 0 rfl ?_
  refine x_iload_n dX11_rowShownAt_1 1 rfl ?_
  refine EX.sub [0, 1] (K0.v (As := [.int i1]) (st := []) cvX11_227 dX11_rowShownAt_2 rfl rfl f1 rfl (Nat.le_of_ble_eq_true rfl) (k1)) rfl
set_option maxRecDepth 8000 in
theorem qX11_rowShownAt_5 {g : GG} {d : Nat} {M : MM} {P : Option Value → MM → Prop} {i1 : Int32} {s0 : Int32} {la lb pa pb rl : Nat} (L : Lay M la lb pa pb rl)
    (k1 : ¬ s0 = 0 → K0 g YX11_rowShownAt YX10_swapPlace d 30 [.ref 39, .ref la, .int i1] [(0, .ref 0), (2, .int (mi M 39 0))] [] M P)
    (k2 : s0 = 0 → P (some (.int (-1))) M) :
    E0 g YX11_rowShownAt d 5 [(0, .ref 0), (1, .int i1)] [.int s0] M P := by
  have f1 : ob M 0 11 := L.s rfl (by decide)
  have f2 : mr M 0 6 = some 39 := L.r 2 rfl
  have f3 : ob M 39 10 := L.s rfl (by decide)
  have f4 : mr M 0 2 = some la := L.rla
  refine x_if_ne 10 dX11_rowShownAt_5 (by decide) (fun c1 => ?_) (fun c1 => ?_)
  · refine x_aload_n dX11_rowShownAt_10 0 rfl ?_
    refine x_getR fdX11_48 rfl dX11_rowShownAt_11 f1.1 f1.2 f2 ?_
    refine x_getI fdX11_129 rfl dX11_rowShownAt_14 f3.1 f3.2 ?_
    refine x_istore_n (lv1 := [(2, .int (mi M 39 0)), (0, .ref 0), (1, .int i1)]) dX11_rowShownAt_17 (by decide) rfl ?_
    refine x_aload_n dX11_rowShownAt_18 1 rfl ?_
    refine x_getR fdX11_48 rfl dX11_rowShownAt_19 f1.1 f1.2 f2 ?_
    refine x_aload_n dX11_rowShownAt_22 1 rfl ?_
    refine x_getR fdX11_10 rfl dX11_rowShownAt_23 f1.1 f1.2 f4 ?_
    refine x_iload_n dX11_rowShownAt_26 2 rfl ?_
    refine EX.sub [1, 0] (K0.v (As := [.ref la, .int i1]) (st := []) cvX11_141 dX11_rowShownAt_27 rfl rfl f3 rfl (Nat.le_of_ble_eq_true rfl) (k1 c1)) rfl
  · refine x_iconst (v := (-1)) dX11_rowShownAt_8 (by decide) ?_
    exact x_iret rfl dX11_rowShownAt_9 (Nat.le_refl _) (Nat.le_refl _) (k2 c1)
set_option maxRecDepth 8000 in
theorem qX11_rowShownAt_30 {g : GG} {d : Nat} {M : MM} {P : Option Value → MM → Prop} {i2 : Int32} {s0 : Int32} {la lb pa pb rl : Nat} (L : Lay M la lb pa pb rl)
    (k1 : K0 g YX11_rowShownAt YX11_nextPlace d 35 [.ref 0] [(0, .ref 0), (2, .int i2), (3, .int s0)] [] M P) :
    E0 g YX11_rowShownAt d 30 [(0, .ref 0), (2, .int i2)] [.int s0] M P := by
  have f1 : ob M 0 11 := L.s rfl (by decide)
  refine x_istore_n (lv1 := [(3, .int s0), (0, .ref 0), (2, .int i2)]) dX11_rowShownAt_30 (by decide) rfl ?_
  refine x_aload_n dX11_rowShownAt_31 1 rfl ?_
  refine EX.sub [1, 2, 0] (K0.v (As := []) (st := []) cvX11_221 dX11_rowShownAt_32 rfl rfl f1 rfl (Nat.le_of_ble_eq_true rfl) (k1)) rfl
set_option maxRecDepth 8000 in
theorem qX11_rowShownAt_35 {g : GG} {d : Nat} {M : MM} {P : Option Value → MM → Prop} {i2 : Int32} {i3 : Int32} {s0 : Int32}
    (k1 : E0 g YX11_rowShownAt d 37 [(0, .ref 0), (2, .int i2), (3, .int i3), (4, .int s0)] [] M P) :
    E0 g YX11_rowShownAt d 35 [(0, .ref 0), (2, .int i2), (3, .int i3)] [.int s0] M P := by
  refine x_istore (lv1 := [(4, .int s0), (0, .ref 0), (2, .int i2), (3, .int i3)]) dX11_rowShownAt_35 (by decide) rfl ?_
  exact EX.sub [1, 2, 3, 0] k1 rfl
set_option maxRecDepth 8000 in
theorem qX11_rowShownAt_37 {g : GG} {d : Nat} {M : MM} {P : Option Value → MM → Prop} {i2 : Int32} {i3 : Int32} {i4 : Int32} {la lb pa pb rl : Nat} (L : Lay M la lb pa pb rl)
    (k1 : i3 < i4 → P (some (.int i2)) M)
    (k2 : ¬ (i3 < i4) → K0 g YX11_rowShownAt YX10_swapPlace d 61 [.ref 39, .ref la, .int i4] [(0, .ref 0), (2, .int i2), (3, .int i3), (4, .int i4)] [.ref la, .int i2] M P) :
    E0 g YX11_rowShownAt d 37 [(0, .ref 0), (2, .int i2), (3, .int i3), (4, .int i4)] [] M P := by
  have f1 : ob M 0 11 := L.s rfl (by decide)
  have f2 : mr M 0 2 = some la := L.rla
  have f3 : mr M 0 6 = some 39 := L.r 2 rfl
  have f4 : ob M 39 10 := L.s rfl (by decide)
  refine x_iload dX11_rowShownAt_37 3 rfl ?_
  refine x_iload_n dX11_rowShownAt_39 2 rfl ?_
  refine x_ic_gt 75 dX11_rowShownAt_40 (by decide) (fun c1 => ?_) (fun c1 => ?_)
  · refine x_iload_n dX11_rowShownAt_75 1 rfl ?_
    exact x_iret rfl dX11_rowShownAt_76 (Nat.le_refl _) (Nat.le_refl _) (k1 c1)
  · refine x_iload_n dX11_rowShownAt_43 1 rfl ?_
    refine x_aload_n dX11_rowShownAt_44 0 rfl ?_
    refine x_getR fdX11_10 rfl dX11_rowShownAt_45 f1.1 f1.2 f2 ?_
    refine x_aload_n dX11_rowShownAt_48 0 rfl ?_
    refine x_getR fdX11_48 rfl dX11_rowShownAt_49 f1.1 f1.2 f3 ?_
    refine x_aload_n dX11_rowShownAt_52 0 rfl ?_
    refine x_getR fdX11_10 rfl dX11_rowShownAt_53 f1.1 f1.2 f2 ?_
    refine x_iload dX11_rowShownAt_56 3 rfl ?_
    refine EX.sub [0, 1, 2, 3] (K0.v (As := [.ref la, .int i4]) (st := [.ref la, .int i2]) cvX11_141 dX11_rowShownAt_58 rfl rfl f4 rfl (Nat.le_of_ble_eq_true rfl) (k2 c1)) rfl
set_option maxRecDepth 8000 in
theorem qX11_rowShownAt_61 {g : GG} {d : Nat} {M : MM} {P : Option Value → MM → Prop} {i2 : Int32} {i3 : Int32} {i4 : Int32} {s0 : Int32} {s1 : Nat} {s2 : Int32}
    (h1 : ob M s1 0)
    (k1 : K0 g YX11_rowShownAt YX0_takenOut d 65 [.ref s1, .int s2, .int i2] [(0, .ref 0), (3, .int i3), (4, .int i4)] [.int s0] M P) :
    E0 g YX11_rowShownAt d 61 [(0, .ref 0), (2, .int i2), (3, .int i3), (4, .int i4)] [.int s2, .ref s1, .int s0] M P := by
  refine x_iload_n dX11_rowShownAt_61 1 rfl ?_
  refine EX.sub [0, 2, 3] (K0.v (As := [.int s2, .int i2]) (st := [.int s0]) cvX11_145 dX11_rowShownAt_62 rfl rfl h1 rfl (Nat.le_of_ble_eq_true rfl) (k1)) rfl
set_option maxRecDepth 8000 in
theorem qX11_rowShownAt_65 {g : GG} {d : Nat} {M : MM} {P : Option Value → MM → Prop} {i3 : Int32} {i4 : Int32} {s0 : Int32} {s1 : Int32}
    (k1 : E0 g YX11_rowShownAt d 37 [(0, .ref 0), (2, .int (s0 &&& (s1 ^^^ (-1)))), (3, .int i3), (4, .int (i4 + 1))] [] M P) :
    E0 g YX11_rowShownAt d 65 [(0, .ref 0), (3, .int i3), (4, .int i4)] [.int s1, .int s0] M P := by
  refine x_iconst (v := (-1)) dX11_rowShownAt_65 (by decide) ?_
  refine x_ixor dX11_rowShownAt_66 ?_
  refine x_iand dX11_rowShownAt_67 ?_
  refine x_istore_n (lv1 := [(2, .int (s0 &&& (s1 ^^^ (-1)))), (0, .ref 0), (3, .int i3), (4, .int i4)]) dX11_rowShownAt_68 (by decide) rfl ?_
  refine x_iinc (v := (i4 + 1)) (lv1 := [(4, .int (i4 + 1)), (2, .int (s0 &&& (s1 ^^^ (-1)))), (0, .ref 0), (3, .int i3)]) dX11_rowShownAt_69 3 rfl rfl (by decide) rfl ?_
  refine x_goto 37 dX11_rowShownAt_72 (by decide) ?_
  exact EX.sub [2, 1, 3, 0] k1 rfl
set_option maxRecDepth 8000 in
theorem qX11_minutesTogether_0 {g : GG} {d : Nat} {M : MM} {P : Option Value → MM → Prop} {i1 : Int32} {la lb pa pb rl : Nat} (L : Lay M la lb pa pb rl)
    (k1 : K0 g YX11_minutesTogether YX11_nextPlace d 14 [.ref 0] [(0, .ref 0), (1, .int i1), (2, .int (mi M 39 0)), (3, .int 0)] [] M P) :
    E0 g YX11_minutesTogether d 0 [(0, .ref 0), (1, .int i1)] [] M P := by
  have f1 : ob M 0 11 := L.s rfl (by decide)
  have f2 : mr M 0 6 = some 39 := L.r 2 rfl
  have f3 : ob M 39 10 := L.s rfl (by decide)
  refine x_aload_n dX11_minutesTogether_0 0 rfl ?_
  refine x_getR fdX11_48 rfl dX11_minutesTogether_1 f1.1 f1.2 f2 ?_
  refine x_getI fdX11_129 rfl dX11_minutesTogether_4 f3.1 f3.2 ?_
  refine x_istore_n (lv1 := [(2, .int (mi M 39 0)), (0, .ref 0), (1, .int i1)]) dX11_minutesTogether_7 (by decide) rfl ?_
  refine x_iconst (v := 0) dX11_minutesTogether_8 (by decide) ?_
  refine x_istore_n (lv1 := [(3, .int 0), (2, .int (mi M 39 0)), (0, .ref 0), (1, .int i1)]) dX11_minutesTogether_9 (by decide) rfl ?_
  refine x_aload_n dX11_minutesTogether_10 2 rfl ?_
  refine EX.sub [2, 3, 1, 0] (K0.v (As := []) (st := []) cvX11_221 dX11_minutesTogether_11 rfl rfl f1 rfl (Nat.le_of_ble_eq_true rfl) (k1)) rfl
set_option maxRecDepth 8000 in
theorem qX11_minutesTogether_14 {g : GG} {d : Nat} {M : MM} {P : Option Value → MM → Prop} {i1 : Int32} {i2 : Int32} {i3 : Int32} {s0 : Int32}
    (k1 : E0 g YX11_minutesTogether d 16 [(0, .ref 0), (1, .int i1), (2, .int i2), (3, .int i3), (4, .int s0)] [] M P) :
    E0 g YX11_minutesTogether d 14 [(0, .ref 0), (1, .int i1), (2, .int i2), (3, .int i3)] [.int s0] M P := by
  refine x_istore (lv1 := [(4, .int s0), (0, .ref 0), (1, .int i1), (2, .int i2), (3, .int i3)]) dX11_minutesTogether_14 (by decide) rfl ?_
  exact EX.sub [1, 2, 3, 4, 0] k1 rfl
set_option maxRecDepth 8000 in
theorem qX11_minutesTogether_16 {g : GG} {d : Nat} {M : MM} {P : Option Value → MM → Prop} {i1 : Int32} {i2 : Int32} {i3 : Int32} {i4 : Int32} {la lb pa pb rl : Nat} (L : Lay M la lb pa pb rl)
    (k1 : (mi M la 5) ≤ i4 → P (some (.int i3)) M)
    (k2 : ¬ ((mi M la 5) ≤ i4) → K0 g YX11_minutesTogether YX10_swapPlace d 41 [.ref 39, .ref la, .int i4] [(0, .ref 0), (1, .int i1), (2, .int i2), (3, .int i3), (4, .int i4)] [] M P) :
    E0 g YX11_minutesTogether d 16 [(0, .ref 0), (1, .int i1), (2, .int i2), (3, .int i3), (4, .int i4)] [] M P := by
  have f1 : ob M 0 11 := L.s rfl (by decide)
  have f2 : mr M 0 2 = some la := L.rla
  have f3 : ob M la 0 := L.cla.o
  have f4 : mr M 0 6 = some 39 := L.r 2 rfl
  have f5 : ob M 39 10 := L.s rfl (by decide)
  refine x_iload dX11_minutesTogether_16 4 rfl ?_
  refine x_aload_n dX11_minutesTogether_18 0 rfl ?_
  refine x_getR fdX11_10 rfl dX11_minutesTogether_19 f1.1 f1.2 f2 ?_
  refine x_getI fdX11_149 rfl dX11_minutesTogether_22 f3.1 f3.2 ?_
  refine x_ic_ge 81 dX11_minutesTogether_25 (by decide) (fun c1 => ?_) (fun c1 => ?_)
  · refine x_iload_n dX11_minutesTogether_81 3 rfl ?_
    exact x_iret rfl dX11_minutesTogether_82 (Nat.le_refl _) (Nat.le_refl _) (k1 c1)
  · refine x_aload_n dX11_minutesTogether_28 0 rfl ?_
    refine x_getR fdX11_48 rfl dX11_minutesTogether_29 f1.1 f1.2 f4 ?_
    refine x_aload_n dX11_minutesTogether_32 0 rfl ?_
    refine x_getR fdX11_10 rfl dX11_minutesTogether_33 f1.1 f1.2 f2 ?_
    refine x_iload dX11_minutesTogether_36 4 rfl ?_
    refine EX.sub [0, 1, 2, 3, 4] (K0.v (As := [.ref la, .int i4]) (st := []) cvX11_141 dX11_minutesTogether_38 rfl rfl f5 rfl (Nat.le_of_ble_eq_true rfl) (k2 c1)) rfl
set_option maxRecDepth 8000 in
theorem qX11_minutesTogether_41 {g : GG} {d : Nat} {M : MM} {P : Option Value → MM → Prop} {i1 : Int32} {i2 : Int32} {i3 : Int32} {i4 : Int32} {s0 : Int32} {la lb pa pb rl : Nat} (L : Lay M la lb pa pb rl)
    (k1 : s0 = i1 → K0 g YX11_minutesTogether YX0_minutesOf d 73 [.ref la, .int i2] [(0, .ref 0), (1, .int i1), (2, .int i2), (4, .int i4)] [.int i3] M P)
    (k2 : ¬ (s0 = i1) → K0 g YX11_minutesTogether YX0_takenOut d 60 [.ref la, .int s0, .int i2] [(0, .ref 0), (1, .int i1), (3, .int i3), (4, .int i4)] [.int i2] M P) :
    E0 g YX11_minutesTogether d 41 [(0, .ref 0), (1, .int i1), (2, .int i2), (3, .int i3), (4, .int i4)] [.int s0] M P := by
  have f1 : ob M 0 11 := L.s rfl (by decide)
  have f2 : mr M 0 2 = some la := L.rla
  have f3 : ob M la 0 := L.cla.o
  refine x_istore (lv1 := [(5, .int s0), (0, .ref 0), (1, .int i1), (2, .int i2), (3, .int i3), (4, .int i4)]) dX11_minutesTogether_41 (by decide) rfl ?_
  refine x_iload dX11_minutesTogether_43 0 rfl ?_
  refine x_iload_n dX11_minutesTogether_45 2 rfl ?_
  refine x_ic_eq 64 dX11_minutesTogether_46 (by decide) (fun c1 => ?_) (fun c1 => ?_)
  · refine x_iload_n dX11_minutesTogether_64 4 rfl ?_
    refine x_aload_n dX11_minutesTogether_65 1 rfl ?_
    refine x_getR fdX11_10 rfl dX11_minutesTogether_66 f1.1 f1.2 f2 ?_
    refine x_iload_n dX11_minutesTogether_69 3 rfl ?_
    refine EX.sub [1, 2, 3, 5] (K0.v (As := [.int i2]) (st := [.int i3]) cvX11_159 dX11_minutesTogether_70 rfl rfl f3 rfl (Nat.le_of_ble_eq_true rfl) (k1 c1)) rfl
  · refine x_iload_n dX11_minutesTogether_49 3 rfl ?_
    refine x_aload_n dX11_minutesTogether_50 1 rfl ?_
    refine x_getR fdX11_10 rfl dX11_minutesTogether_51 f1.1 f1.2 f2 ?_
    refine x_iload dX11_minutesTogether_54 0 rfl ?_
    refine x_iload_n dX11_minutesTogether_56 3 rfl ?_
    refine EX.sub [1, 2, 4, 5] (K0.v (As := [.int s0, .int i2]) (st := [.int i2]) cvX11_145 dX11_minutesTogether_57 rfl rfl f3 rfl (Nat.le_of_ble_eq_true rfl) (k2 c1)) rfl
set_option maxRecDepth 8000 in
theorem qX11_minutesTogether_60 {g : GG} {d : Nat} {M : MM} {P : Option Value → MM → Prop} {i1 : Int32} {i3 : Int32} {i4 : Int32} {s0 : Int32} {s1 : Int32} {la lb pa pb rl : Nat} (L : Lay M la lb pa pb rl)
    (k1 : K0 g YX11_minutesTogether YX0_minutesOf d 73 [.ref la, .int (s0 &&& (s1 ^^^ (-1)))] [(0, .ref 0), (1, .int i1), (2, .int (s0 &&& (s1 ^^^ (-1)))), (4, .int i4)] [.int i3] M P) :
    E0 g YX11_minutesTogether d 60 [(0, .ref 0), (1, .int i1), (3, .int i3), (4, .int i4)] [.int s1, .int s0] M P := by
  have f1 : ob M 0 11 := L.s rfl (by decide)
  have f2 : mr M 0 2 = some la := L.rla
  have f3 : ob M la 0 := L.cla.o
  refine x_iconst (v := (-1)) dX11_minutesTogether_60 (by decide) ?_
  refine x_ixor dX11_minutesTogether_61 ?_
  refine x_iand dX11_minutesTogether_62 ?_
  refine x_istore_n (lv1 := [(2, .int (s0 &&& (s1 ^^^ (-1)))), (0, .ref 0), (1, .int i1), (3, .int i3), (4, .int i4)]) dX11_minutesTogether_63 (by decide) rfl ?_
  refine x_iload_n dX11_minutesTogether_64 3 rfl ?_
  refine x_aload_n dX11_minutesTogether_65 1 rfl ?_
  refine x_getR fdX11_10 rfl dX11_minutesTogether_66 f1.1 f1.2 f2 ?_
  refine x_iload_n dX11_minutesTogether_69 0 rfl ?_
  refine EX.sub [1, 2, 0, 4] (K0.v (As := [.int (s0 &&& (s1 ^^^ (-1)))]) (st := [.int i3]) cvX11_159 dX11_minutesTogether_70 rfl rfl f3 rfl (Nat.le_of_ble_eq_true rfl) (k1)) rfl
set_option maxRecDepth 8000 in
theorem qX11_minutesTogether_73 {g : GG} {d : Nat} {M : MM} {P : Option Value → MM → Prop} {i1 : Int32} {i2 : Int32} {i4 : Int32} {s0 : Int32} {s1 : Int32}
    (k1 : E0 g YX11_minutesTogether d 16 [(0, .ref 0), (1, .int i1), (2, .int i2), (3, .int (s0 + s1)), (4, .int (i4 + 1))] [] M P) :
    E0 g YX11_minutesTogether d 73 [(0, .ref 0), (1, .int i1), (2, .int i2), (4, .int i4)] [.int s1, .int s0] M P := by
  refine x_iadd dX11_minutesTogether_73 ?_
  refine x_istore_n (lv1 := [(3, .int (s0 + s1)), (0, .ref 0), (1, .int i1), (2, .int i2), (4, .int i4)]) dX11_minutesTogether_74 (by decide) rfl ?_
  refine x_iinc (v := (i4 + 1)) (lv1 := [(4, .int (i4 + 1)), (3, .int (s0 + s1)), (0, .ref 0), (1, .int i1), (2, .int i2)]) dX11_minutesTogether_75 4 rfl rfl (by decide) rfl ?_
  refine x_goto 16 dX11_minutesTogether_78 (by decide) ?_
  exact EX.sub [2, 3, 4, 1, 0] k1 rfl
set_option maxRecDepth 8000 in
theorem qX11_fillRows_0 {g : GG} {d : Nat} {M : MM} {P : Option Value → MM → Prop} 
    (k1 : E0 g YX11_fillRows d 2 [(0, .ref 0), (1, .int 0)] [] M P) :
    E0 g YX11_fillRows d 0 [(0, .ref 0)] [] M P := by
  refine x_iconst (v := 0) dX11_fillRows_0 (by decide) ?_
  refine x_istore_n (lv1 := [(1, .int 0), (0, .ref 0)]) dX11_fillRows_1 (by decide) rfl ?_
  exact EX.sub [1, 0] k1 rfl
set_option maxRecDepth 8000 in
theorem qX11_fillRows_2 {g : GG} {d : Nat} {M : MM} {P : Option Value → MM → Prop} {i1 : Int32} {la lb pa pb rl : Nat} (L : Lay M la lb pa pb rl)
    (k1 : 6 ≤ i1 → P none M)
    (k2 : ¬ (6 ≤ i1) → K0 g YX11_fillRows YX0_takenOut d 35 [.ref la, .int i1, .int (mi M 39 0)] [(0, .ref 0), (1, .int i1)] [.int (mi M 39 0), .int i1, .ref 129] M P) :
    E0 g YX11_fillRows d 2 [(0, .ref 0), (1, .int i1)] [] M P := by
  have f1 : ob M 0 11 := L.s rfl (by decide)
  have f2 : mr M 0 13 = some 129 := L.r 9 rfl
  have f3 : mr M 0 6 = some 39 := L.r 2 rfl
  have f4 : ob M 39 10 := L.s rfl (by decide)
  have f5 : mr M 0 2 = some la := L.rla
  have f6 : ob M la 0 := L.cla.o
  refine x_iload_n dX11_fillRows_2 1 rfl ?_
  refine x_bipush (v := 6) dX11_fillRows_3 (by decide) ?_
  refine x_ic_ge 45 dX11_fillRows_5 (by decide) (fun c1 => ?_) (fun c1 => ?_)
  · exact x_vret rfl dX11_fillRows_45 (Nat.le_refl _) (Nat.le_refl _) (k1 c1)
  · refine x_aload_n dX11_fillRows_8 0 rfl ?_
    refine x_getR fdX11_90 rfl dX11_fillRows_9 f1.1 f1.2 f2 ?_
    refine x_iload_n dX11_fillRows_12 1 rfl ?_
    refine x_aload_n dX11_fillRows_13 0 rfl ?_
    refine x_getR fdX11_48 rfl dX11_fillRows_14 f1.1 f1.2 f3 ?_
    refine x_getI fdX11_129 rfl dX11_fillRows_17 f4.1 f4.2 ?_
    refine x_aload_n dX11_fillRows_20 0 rfl ?_
    refine x_getR fdX11_10 rfl dX11_fillRows_21 f1.1 f1.2 f5 ?_
    refine x_iload_n dX11_fillRows_24 1 rfl ?_
    refine x_aload_n dX11_fillRows_25 0 rfl ?_
    refine x_getR fdX11_48 rfl dX11_fillRows_26 f1.1 f1.2 f3 ?_
    refine x_getI fdX11_129 rfl dX11_fillRows_29 f4.1 f4.2 ?_
    refine EX.sub [0, 1] (K0.v (As := [.int i1, .int (mi M 39 0)]) (st := [.int (mi M 39 0), .int i1, .ref 129]) cvX11_145 dX11_fillRows_32 rfl rfl f6 rfl (Nat.le_of_ble_eq_true rfl) (k2 c1)) rfl
set_option maxRecDepth 8000 in
theorem qX11_fillRows_35 {g : GG} {d : Nat} {M : MM} {P : Option Value → MM → Prop} {i1 : Int32} {s0 : Nat} {s1 : Int32} {s2 : Int32} {s3 : Int32} {n_s0 : Nat} {M1 : MM}
    (qM1 : M1 = wi M s0 (s1 : Int32).toNatClampNeg (s2 &&& (s3 ^^^ (-1))))
    (h1 : ar M s0 1 n_s0)
    (h2 : vp_in s1 n_s0)
    (k1 : E0 g YX11_fillRows d 2 [(0, .ref 0), (1, .int (i1 + 1))] [] M1 P) :
    E0 g YX11_fillRows d 35 [(0, .ref 0), (1, .int i1)] [.int s3, .int s2, .int s1, .ref s0] M P := by
  subst qM1
  refine x_iconst (v := (-1)) dX11_fillRows_35 (by decide) ?_
  refine x_ixor dX11_fillRows_36 ?_
  refine x_iand dX11_fillRows_37 ?_
  refine x_iast dX11_fillRows_38 h1.1 h1.2 (h2) ?_
  refine x_iinc (v := (i1 + 1)) (lv1 := [(1, .int (i1 + 1)), (0, .ref 0)]) dX11_fillRows_39 1 rfl rfl (by decide) rfl ?_
  refine x_goto 2 dX11_fillRows_42 (by decide) ?_
  exact EX.sub [1, 0] k1 rfl
set_option maxRecDepth 8000 in
theorem qX11_seenBy_0 {g : GG} {d : Nat} {M : MM} {P : Option Value → MM → Prop} {i1 : Int32}
    (k1 : E0 g YX11_seenBy d 4 [(0, .ref 0), (1, .int i1), (2, .int 0), (3, .int 0)] [] M P) :
    E0 g YX11_seenBy d 0 [(0, .ref 0), (1, .int i1)] [] M P := by
  refine x_iconst (v := 0) dX11_seenBy_0 (by decide) ?_
  refine x_istore_n (lv1 := [(2, .int 0), (0, .ref 0), (1, .int i1)]) dX11_seenBy_1 (by decide) rfl ?_
  refine x_iconst (v := 0) dX11_seenBy_2 (by decide) ?_
  refine x_istore_n (lv1 := [(3, .int 0), (2, .int 0), (0, .ref 0), (1, .int i1)]) dX11_seenBy_3 (by decide) rfl ?_
  exact EX.sub [2, 3, 1, 0] k1 rfl
set_option maxRecDepth 8000 in
theorem qX11_seenBy_4 {g : GG} {d : Nat} {M : MM} {P : Option Value → MM → Prop} {i1 : Int32} {i2 : Int32} {i3 : Int32} {la lb pa pb rl : Nat} (L : Lay M la lb pa pb rl)
    (h1 : ¬ ((mi M la 5) ≤ i3) → ((i1 >>> (i3 &&& 31)) &&& 1) = 1 → vp_in i3 6)
    (h2 : ¬ ((mi M la 5) ≤ i3) → ((i1 >>> (i3 &&& 31)) &&& 1) = 1 → vp_in i3 6)
    (k1 : (mi M la 5) ≤ i3 → P (some (.int i2)) M)
    (k2 : ¬ ((mi M la 5) ≤ i3) → ¬ ((i1 >>> (i3 &&& 31)) &&& 1) = 1 → E0 g YX11_seenBy d 4 [(0, .ref 0), (1, .int i1), (2, .int i2), (3, .int (i3 + 1))] [] M P)
    (k3 : ¬ ((mi M la 5) ≤ i3) → ((i1 >>> (i3 &&& 31)) &&& 1) = 1 → E0 g YX11_seenBy d 4 [(0, .ref 0), (1, .int i1), (2, .int (i2 ||| ((mi M 129 (i3 : Int32).toNatClampNeg) ||| (mi M 40 (i3 : Int32).toNatClampNeg)))), (3, .int (i3 + 1))] [] M P) :
    E0 g YX11_seenBy d 4 [(0, .ref 0), (1, .int i1), (2, .int i2), (3, .int i3)] [] M P := by
  have f1 : ob M 0 11 := L.s rfl (by decide)
  have f2 : mr M 0 2 = some la := L.rla
  have f3 : ob M la 0 := L.cla.o
  have f4 : mr M 0 13 = some 129 := L.r 9 rfl
  have f5 : ar M 129 1 6 := L.s rfl (by decide)
  have f6 : mr M 0 6 = some 39 := L.r 2 rfl
  have f7 : ob M 39 10 := L.s rfl (by decide)
  have f8 : mr M 39 1 = some 40 := L.r 43 rfl
  have f9 : ar M 40 1 6 := L.s rfl (by decide)
  refine x_iload_n dX11_seenBy_4 3 rfl ?_
  refine x_aload_n dX11_seenBy_5 0 rfl ?_
  refine x_getR fdX11_10 rfl dX11_seenBy_6 f1.1 f1.2 f2 ?_
  refine x_getI fdX11_149 rfl dX11_seenBy_9 f3.1 f3.2 ?_
  refine x_ic_ge 49 dX11_seenBy_12 (by decide) (fun c1 => ?_) (fun c1 => ?_)
  · refine x_iload_n dX11_seenBy_49 2 rfl ?_
    exact x_iret rfl dX11_seenBy_50 (Nat.le_refl _) (Nat.le_refl _) (k1 c1)
  · refine x_iload_n dX11_seenBy_15 1 rfl ?_
    refine x_iload_n dX11_seenBy_16 3 rfl ?_
    refine x_ishr dX11_seenBy_17 ?_
    refine x_iconst (v := 1) dX11_seenBy_18 (by decide) ?_
    refine x_iand dX11_seenBy_19 ?_
    refine x_iconst (v := 1) dX11_seenBy_20 (by decide) ?_
    refine x_ic_ne 43 dX11_seenBy_21 (by decide) (fun c2 => ?_) (fun c2 => ?_)
    · refine x_iinc (v := (i3 + 1)) (lv1 := [(3, .int (i3 + 1)), (0, .ref 0), (1, .int i1), (2, .int i2)]) dX11_seenBy_43 3 rfl rfl (by decide) rfl ?_
      refine x_goto 4 dX11_seenBy_46 (by decide) ?_
      exact EX.sub [1, 2, 3, 0] (k2 c1 c2) rfl
    · refine x_iload_n dX11_seenBy_24 2 rfl ?_
      refine x_aload_n dX11_seenBy_25 0 rfl ?_
      refine x_getR fdX11_90 rfl dX11_seenBy_26 f1.1 f1.2 f4 ?_
      refine x_iload_n dX11_seenBy_29 3 rfl ?_
      refine x_iald dX11_seenBy_30 f5.1 f5.2 (h1 c1 c2) ?_
      refine x_aload_n dX11_seenBy_31 0 rfl ?_
      refine x_getR fdX11_48 rfl dX11_seenBy_32 f1.1 f1.2 f6 ?_
      refine x_getR fdX11_138 rfl dX11_seenBy_35 f7.1 f7.2 f8 ?_
      refine x_iload_n dX11_seenBy_38 3 rfl ?_
      refine x_iald dX11_seenBy_39 f9.1 f9.2 (h2 c1 c2) ?_
      refine x_ior dX11_seenBy_40 ?_
      refine x_ior dX11_seenBy_41 ?_
      refine x_istore_n (lv1 := [(2, .int (i2 ||| ((mi M 129 (i3 : Int32).toNatClampNeg) ||| (mi M 40 (i3 : Int32).toNatClampNeg)))), (0, .ref 0), (1, .int i1), (3, .int i3)]) dX11_seenBy_42 (by decide) rfl ?_
      refine x_iinc (v := (i3 + 1)) (lv1 := [(3, .int (i3 + 1)), (2, .int (i2 ||| ((mi M 129 (i3 : Int32).toNatClampNeg) ||| (mi M 40 (i3 : Int32).toNatClampNeg)))), (0, .ref 0), (1, .int i1)]) dX11_seenBy_43 3 rfl rfl (by decide) rfl ?_
      refine x_goto 4 dX11_seenBy_46 (by decide) ?_
      exact EX.sub [2, 3, 1, 0] (k3 c1 c2) rfl
set_option maxRecDepth 8000 in
theorem qX11_greaterPart_0 {g : GG} {d : Nat} {M : MM} {P : Option Value → MM → Prop} {i1 : Int32} {i2 : Int32}
    (k1 : E0 g YX11_greaterPart d 5 [(0, .ref 0), (1, .int i1), (2, .int i2), (3, .int 0), (4, .int 0)] [] M P) :
    E0 g YX11_greaterPart d 0 [(0, .ref 0), (1, .int i1), (2, .int i2)] [] M P := by
  refine x_iconst (v := 0) dX11_greaterPart_0 (by decide) ?_
  refine x_istore_n (lv1 := [(3, .int 0), (0, .ref 0), (1, .int i1), (2, .int i2)]) dX11_greaterPart_1 (by decide) rfl ?_
  refine x_iconst (v := 0) dX11_greaterPart_2 (by decide) ?_
  refine x_istore (lv1 := [(4, .int 0), (3, .int 0), (0, .ref 0), (1, .int i1), (2, .int i2)]) dX11_greaterPart_3 (by decide) rfl ?_
  exact EX.sub [2, 3, 4, 1, 0] k1 rfl
set_option maxRecDepth 8000 in
theorem qX11_greaterPart_5 {g : GG} {d : Nat} {M : MM} {P : Option Value → MM → Prop} {i1 : Int32} {i2 : Int32} {i3 : Int32} {i4 : Int32} {la lb pa pb rl : Nat} (L : Lay M la lb pa pb rl)
    (h1 : ¬ ((mi M la 5) ≤ i4) → ((i1 >>> (i4 &&& 31)) &&& 1) = 1 → vp_in i4 6)
    (k1 : (mi M la 5) ≤ i4 → K0 g YX11_greaterPart YJ6_bitCount_0f7a4 d 52 [.int i1] [(3, .int i3)] [.int i3] M P)
    (k2 : ¬ ((mi M la 5) ≤ i4) → ¬ ((i1 >>> (i4 &&& 31)) &&& 1) = 1 → E0 g YX11_greaterPart d 5 [(0, .ref 0), (1, .int i1), (2, .int i2), (3, .int i3), (4, .int (i4 + 1))] [] M P)
    (k3 : ¬ ((mi M la 5) ≤ i4) → ((i1 >>> (i4 &&& 31)) &&& 1) = 1 → E0 g YX11_greaterPart d 5 [(0, .ref 0), (1, .int i1), (2, .int i2), (3, .int (i3 + (((mi M 129 (i4 : Int32).toNatClampNeg) >>> (i2 &&& 31)) &&& 1))), (4, .int (i4 + 1))] [] M P) :
    E0 g YX11_greaterPart d 5 [(0, .ref 0), (1, .int i1), (2, .int i2), (3, .int i3), (4, .int i4)] [] M P := by
  have f1 : ob M 0 11 := L.s rfl (by decide)
  have f2 : mr M 0 2 = some la := L.rla
  have f3 : ob M la 0 := L.cla.o
  have f4 : mr M 0 13 = some 129 := L.r 9 rfl
  have f5 : ar M 129 1 6 := L.s rfl (by decide)
  refine x_iload dX11_greaterPart_5 4 rfl ?_
  refine x_aload_n dX11_greaterPart_7 0 rfl ?_
  refine x_getR fdX11_10 rfl dX11_greaterPart_8 f1.1 f1.2 f2 ?_
  refine x_getI fdX11_149 rfl dX11_greaterPart_11 f3.1 f3.2 ?_
  refine x_ic_ge 47 dX11_greaterPart_14 (by decide) (fun c1 => ?_) (fun c1 => ?_)
  · refine x_iload_n dX11_greaterPart_47 3 rfl ?_
    refine x_iload_n dX11_greaterPart_48 1 rfl ?_
    refine EX.sub [3] (K0.s (As := [.int i1]) (st := [.int i3]) csX11_171 dX11_greaterPart_49 rfl rfl (Nat.le_of_ble_eq_true rfl) (k1 c1)) rfl
  · refine x_iload_n dX11_greaterPart_17 1 rfl ?_
    refine x_iload dX11_greaterPart_18 4 rfl ?_
    refine x_ishr dX11_greaterPart_20 ?_
    refine x_iconst (v := 1) dX11_greaterPart_21 (by decide) ?_
    refine x_iand dX11_greaterPart_22 ?_
    refine x_iconst (v := 1) dX11_greaterPart_23 (by decide) ?_
    refine x_ic_ne 41 dX11_greaterPart_24 (by decide) (fun c2 => ?_) (fun c2 => ?_)
    · refine x_iinc (v := (i4 + 1)) (lv1 := [(4, .int (i4 + 1)), (0, .ref 0), (1, .int i1), (2, .int i2), (3, .int i3)]) dX11_greaterPart_41 4 rfl rfl (by decide) rfl ?_
      refine x_goto 5 dX11_greaterPart_44 (by decide) ?_
      exact EX.sub [1, 2, 3, 4, 0] (k2 c1 c2) rfl
    · refine x_iload_n dX11_greaterPart_27 3 rfl ?_
      refine x_aload_n dX11_greaterPart_28 0 rfl ?_
      refine x_getR fdX11_90 rfl dX11_greaterPart_29 f1.1 f1.2 f4 ?_
      refine x_iload dX11_greaterPart_32 4 rfl ?_
      refine x_iald dX11_greaterPart_34 f5.1 f5.2 (h1 c1 c2) ?_
      refine x_iload_n dX11_greaterPart_35 2 rfl ?_
      refine x_ishr dX11_greaterPart_36 ?_
      refine x_iconst (v := 1) dX11_greaterPart_37 (by decide) ?_
      refine x_iand dX11_greaterPart_38 ?_
      refine x_iadd dX11_greaterPart_39 ?_
      refine x_istore_n (lv1 := [(3, .int (i3 + (((mi M 129 (i4 : Int32).toNatClampNeg) >>> (i2 &&& 31)) &&& 1))), (0, .ref 0), (1, .int i1), (2, .int i2), (4, .int i4)]) dX11_greaterPart_40 (by decide) rfl ?_
      refine x_iinc (v := (i4 + 1)) (lv1 := [(4, .int (i4 + 1)), (3, .int (i3 + (((mi M 129 (i4 : Int32).toNatClampNeg) >>> (i2 &&& 31)) &&& 1))), (0, .ref 0), (1, .int i1), (2, .int i2)]) dX11_greaterPart_41 4 rfl rfl (by decide) rfl ?_
      refine x_goto 5 dX11_greaterPart_44 (by decide) ?_
      exact EX.sub [2, 3, 4, 1, 0] (k3 c1 c2) rfl
set_option maxRecDepth 8000 in
theorem qX11_greaterPart_52 {g : GG} {d : Nat} {M : MM} {P : Option Value → MM → Prop} {i3 : Int32} {s0 : Int32} {s1 : Int32}
    (h1 : 1 ≤ d)
    (k1 : P (some (.int (if s0 < (s1 - i3) then (s1 - i3) else s0))) M) :
    E0 g YX11_greaterPart d 52 [(3, .int i3)] [.int s1, .int s0] M P := by
  refine x_iload_n dX11_greaterPart_52 0 rfl ?_
  refine x_isub dX11_greaterPart_53 ?_
  refine x_max dX11_greaterPart_54 mmX11_252 gk_max1 gk_math gk_max2 h1 (Nat.le_refl _) (Nat.le_refl _) (Nat.le_of_ble_eq_true rfl) ?_
  exact x_iret rfl dX11_greaterPart_57 (Nat.le_refl _) (Nat.le_refl _) (k1)
set_option maxRecDepth 8000 in
theorem qX11_giveBackByDraw_0 {g : GG} {d : Nat} {M : MM} {P : Option Value → MM → Prop}  {la lb pa pb rl : Nat} (L : Lay M la lb pa pb rl)
    (k1 : K0 g YX11_giveBackByDraw YX10_drawn d 7 [.ref 41] [(0, .ref 0)] [] M P) :
    E0 g YX11_giveBackByDraw d 0 [(0, .ref 0)] [] M P := by
  have f1 : ob M 0 11 := L.s rfl (by decide)
  have f2 : mr M 0 7 = some 41 := L.r 3 rfl
  have f3 : ob M 41 10 := L.s rfl (by decide)
  refine x_aload_n dX11_giveBackByDraw_0 0 rfl ?_
  refine x_getR fdX11_52 rfl dX11_giveBackByDraw_1 f1.1 f1.2 f2 ?_
  refine EX.sub [0] (K0.v (As := []) (st := []) cvX11_276 dX11_giveBackByDraw_4 rfl rfl f3 rfl (Nat.le_of_ble_eq_true rfl) (k1)) rfl
set_option maxRecDepth 8000 in
theorem qX11_giveBackByDraw_7 {g : GG} {d : Nat} {M : MM} {P : Option Value → MM → Prop} {s0 : Int32} {la lb pa pb rl : Nat} (L : Lay M la lb pa pb rl)
    (k1 : s0 = 0 → P none M)
    (k2 : ¬ (s0 = 0) → K0 g YX11_giveBackByDraw YX1_below d 20 [.ref 128, .int 4] [(0, .ref 0), (1, .int s0)] [] M P) :
    E0 g YX11_giveBackByDraw d 7 [(0, .ref 0)] [.int s0] M P := by
  have f1 : ob M 0 11 := L.s rfl (by decide)
  have f2 : mr M 0 12 = some 128 := L.r 8 rfl
  have f3 : ob M 128 1 := L.s rfl (by decide)
  refine x_istore_n (lv1 := [(1, .int s0), (0, .ref 0)]) dX11_giveBackByDraw_7 (by decide) rfl ?_
  refine x_iload_n dX11_giveBackByDraw_8 0 rfl ?_
  refine x_if_eq 23 dX11_giveBackByDraw_9 (by decide) (fun c1 => ?_) (fun c1 => ?_)
  · exact x_vret rfl dX11_giveBackByDraw_23 (Nat.le_refl _) (Nat.le_refl _) (k1 c1)
  · refine x_aload_n dX11_giveBackByDraw_12 1 rfl ?_
    refine x_getR fdX11_86 rfl dX11_giveBackByDraw_13 f1.1 f1.2 f2 ?_
    refine x_iconst (v := 4) dX11_giveBackByDraw_16 (by decide) ?_
    refine EX.sub [1, 0] (K0.v (As := [.int 4]) (st := []) cvX11_313 dX11_giveBackByDraw_17 rfl rfl f3 rfl (Nat.le_of_ble_eq_true rfl) (k2 c1)) rfl
set_option maxRecDepth 8000 in
theorem qX11_giveBackByDraw_20 {g : GG} {d : Nat} {M : MM} {P : Option Value → MM → Prop} {i1 : Int32} {s0 : Int32} {la lb pa pb rl : Nat} (L : Lay M la lb pa pb rl)
    (k1 : s0 = 0 → K0 g YX11_giveBackByDraw YJ6_bitCount_0f7a4 d 37 [.int i1] [(0, .ref 0)] [.ref 128, .int i1, .ref la] M P)
    (k2 : ¬ (s0 = 0) → P none M) :
    E0 g YX11_giveBackByDraw d 20 [(0, .ref 0), (1, .int i1)] [.int s0] M P := by
  have f1 : ob M 0 11 := L.s rfl (by decide)
  have f2 : mr M 0 2 = some la := L.rla
  have f3 : mr M 0 12 = some 128 := L.r 8 rfl
  refine x_if_eq 24 dX11_giveBackByDraw_20 (by decide) (fun c1 => ?_) (fun c1 => ?_)
  · refine x_aload_n dX11_giveBackByDraw_24 0 rfl ?_
    refine x_getR fdX11_10 rfl dX11_giveBackByDraw_25 f1.1 f1.2 f2 ?_
    refine x_iload_n dX11_giveBackByDraw_28 1 rfl ?_
    refine x_aload_n dX11_giveBackByDraw_29 0 rfl ?_
    refine x_getR fdX11_86 rfl dX11_giveBackByDraw_30 f1.1 f1.2 f3 ?_
    refine x_iload_n dX11_giveBackByDraw_33 1 rfl ?_
    refine EX.sub [0] (K0.s (As := [.int i1]) (st := [.ref 128, .int i1, .ref la]) csX11_171 dX11_giveBackByDraw_34 rfl rfl (Nat.le_of_ble_eq_true rfl) (k1 c1)) rfl
  · exact x_vret rfl dX11_giveBackByDraw_23 (Nat.le_refl _) (Nat.le_refl _) (k2 c1)
set_option maxRecDepth 8000 in
theorem qX11_giveBackByDraw_37 {g : GG} {d : Nat} {M : MM} {P : Option Value → MM → Prop} {s0 : Nat} {s1 : Int32} {s2 : Nat} {s3 : Int32}
    (h1 : ob M s2 1)
    (k1 : K0 g YX11_giveBackByDraw YX1_below d 40 [.ref s2, .int s3] [(0, .ref 0)] [.int s1, .ref s0] M P) :
    E0 g YX11_giveBackByDraw d 37 [(0, .ref 0)] [.int s3, .ref s2, .int s1, .ref s0] M P := by
  refine EX.sub [0] (K0.v (As := [.int s3]) (st := [.int s1, .ref s0]) cvX11_313 dX11_giveBackByDraw_37 rfl rfl h1 rfl (Nat.le_of_ble_eq_true rfl) (k1)) rfl
set_option maxRecDepth 8000 in
theorem qX11_giveBackByDraw_40 {g : GG} {d : Nat} {M : MM} {P : Option Value → MM → Prop} {s0 : Nat} {s1 : Int32} {s2 : Int32}
    (h1 : ob M s0 0)
    (k1 : K0 g YX11_giveBackByDraw YX0_shotAt d 43 [.ref s0, .int s1, .int s2] [(0, .ref 0)] [] M P) :
    E0 g YX11_giveBackByDraw d 40 [(0, .ref 0)] [.int s2, .int s1, .ref s0] M P := by
  refine EX.sub [0] (K0.v (As := [.int s1, .int s2]) (st := []) cvX11_218 dX11_giveBackByDraw_40 rfl rfl h1 rfl (Nat.le_of_ble_eq_true rfl) (k1)) rfl
set_option maxRecDepth 8000 in
theorem qX11_giveBackByDraw_43 {g : GG} {d : Nat} {M : MM} {P : Option Value → MM → Prop} {s0 : Int32} {la lb pa pb rl : Nat} (L : Lay M la lb pa pb rl)
    (k1 : s0 = (-1) → E0 g YX11_giveBackByDraw d 65 [] [] M P)
    (k2 : ¬ (s0 = (-1)) → K0 g YX11_giveBackByDraw YX10_holderOf d 61 [.ref 41, .int s0] [(2, .int s0)] [.ref 41] M P) :
    E0 g YX11_giveBackByDraw d 43 [(0, .ref 0)] [.int s0] M P := by
  have f1 : ob M 0 11 := L.s rfl (by decide)
  have f2 : mr M 0 7 = some 41 := L.r 3 rfl
  have f3 : ob M 41 10 := L.s rfl (by decide)
  refine x_istore_n (lv1 := [(2, .int s0), (0, .ref 0)]) dX11_giveBackByDraw_43 (by decide) rfl ?_
  refine x_iload_n dX11_giveBackByDraw_44 0 rfl ?_
  refine x_iconst (v := (-1)) dX11_giveBackByDraw_45 (by decide) ?_
  refine x_ic_eq 65 dX11_giveBackByDraw_46 (by decide) (fun c1 => ?_) (fun c1 => ?_)
  · exact EX.sub [] (k1 c1) rfl
  · refine x_aload_n dX11_giveBackByDraw_49 1 rfl ?_
    refine x_getR fdX11_52 rfl dX11_giveBackByDraw_50 f1.1 f1.2 f2 ?_
    refine x_aload_n dX11_giveBackByDraw_53 1 rfl ?_
    refine x_getR fdX11_52 rfl dX11_giveBackByDraw_54 f1.1 f1.2 f2 ?_
    refine x_iload_n dX11_giveBackByDraw_57 0 rfl ?_
    refine EX.sub [0] (K0.v (As := [.int s0]) (st := [.ref 41]) cvX11_282 dX11_giveBackByDraw_58 rfl rfl f3 rfl (Nat.le_of_ble_eq_true rfl) (k2 c1)) rfl
set_option maxRecDepth 8000 in
theorem qX11_giveBackByDraw_61 {g : GG} {d : Nat} {M : MM} {P : Option Value → MM → Prop} {i2 : Int32} {s0 : Nat} {s1 : Int32}
    (h1 : ob M s0 10)
    (k1 : K0 g YX11_giveBackByDraw YX10_giveBack d 65 [.ref s0, .int s1, .int i2] [] [] M P) :
    E0 g YX11_giveBackByDraw d 61 [(2, .int i2)] [.int s1, .ref s0] M P := by
  refine x_iload_n dX11_giveBackByDraw_61 0 rfl ?_
  refine EX.sub [] (K0.v (As := [.int s1, .int i2]) (st := []) cvX11_167 dX11_giveBackByDraw_62 rfl rfl h1 rfl (Nat.le_of_ble_eq_true rfl) (k1)) rfl
set_option maxRecDepth 8000 in
theorem qX11_giveBackByDraw_65 {g : GG} {d : Nat} {M : MM} {P : Option Value → MM → Prop} 
    (k1 : P none M) :
    E0 g YX11_giveBackByDraw d 65 [] [] M P := by
  exact x_vret rfl dX11_giveBackByDraw_65 (Nat.le_refl _) (Nat.le_refl _) (k1)
set_option maxRecDepth 8000 in
theorem qX11_isBid_0 {g : GG} {d : Nat} {M : MM} {P : Option Value → MM → Prop} {i0 : Int32}
    (k1 : i0 < 0 → P (some (.int 0)) M)
    (k2 : ¬ (i0 < 0) → 9 < i0 → P (some (.int 0)) M)
    (k3 : ¬ (i0 < 0) → ¬ (9 < i0) → P (some (.int 1)) M) :
    E0 g YX11_isBid d 0 [(0, .int i0)] [] M P := by
  refine x_iload_n dX11_isBid_0 0 rfl ?_
  refine x_if_lt 14 dX11_isBid_1 (by decide) (fun c1 => ?_) (fun c1 => ?_)
  · refine x_iconst (v := 0) dX11_isBid_14 (by decide) ?_
    exact x_zret rfl dX11_isBid_15 rfl (Nat.le_refl _) (Nat.le_refl _) (k1 c1)
  · refine x_iload_n dX11_isBid_4 0 rfl ?_
    refine x_bipush (v := 9) dX11_isBid_5 (by decide) ?_
    refine x_ic_gt 14 dX11_isBid_7 (by decide) (fun c2 => ?_) (fun c2 => ?_)
    · refine x_iconst (v := 0) dX11_isBid_14 (by decide) ?_
      exact x_zret rfl dX11_isBid_15 rfl (Nat.le_refl _) (Nat.le_refl _) (k2 c1 c2)
    · refine x_iconst (v := 1) dX11_isBid_10 (by decide) ?_
      refine x_goto 15 dX11_isBid_11 (by decide) ?_
      exact x_zret rfl dX11_isBid_15 rfl (Nat.le_refl _) (Nat.le_refl _) (k3 c1 c2)
set_option maxRecDepth 8000 in
theorem qX11_isAtRest_0 {g : GG} {d : Nat} {M : MM} {P : Option Value → MM → Prop} {i0 : Int32} {i1 : Int32} {i2 : Int32} {i3 : Int32}
    (k1 : K0 g YX11_isAtRest YX11_gain d 20 [.int i0, .int i1, .int i2, .int (i3 >>> (1 &&& 31)), .int (i3 &&& 1)] [(0, .int i0), (1, .int i1), (2, .int i2), (4, .int (i3 >>> (1 &&& 31))), (5, .int (i3 &&& 1))] [] M P) :
    E0 g YX11_isAtRest d 0 [(0, .int i0), (1, .int i1), (2, .int i2), (3, .int i3)] [] M P := by
  refine x_iload_n dX11_isAtRest_0 3 rfl ?_
  refine x_iconst (v := 1) dX11_isAtRest_1 (by decide) ?_
  refine x_ishr dX11_isAtRest_2 ?_
  refine x_istore (lv1 := [(4, .int (i3 >>> (1 &&& 31))), (0, .int i0), (1, .int i1), (2, .int i2), (3, .int i3)]) dX11_isAtRest_3 (by decide) rfl ?_
  refine x_iload_n dX11_isAtRest_5 4 rfl ?_
  refine x_iconst (v := 1) dX11_isAtRest_6 (by decide) ?_
  refine x_iand dX11_isAtRest_7 ?_
  refine x_istore (lv1 := [(5, .int (i3 &&& 1)), (4, .int (i3 >>> (1 &&& 31))), (0, .int i0), (1, .int i1), (2, .int i2), (3, .int i3)]) dX11_isAtRest_8 (by decide) rfl ?_
  refine x_iload_n dX11_isAtRest_10 2 rfl ?_
  refine x_iload_n dX11_isAtRest_11 3 rfl ?_
  refine x_iload_n dX11_isAtRest_12 4 rfl ?_
  refine x_iload dX11_isAtRest_13 1 rfl ?_
  refine x_iload dX11_isAtRest_15 0 rfl ?_
  refine EX.sub [2, 3, 4, 1, 0] (K0.s (As := [.int i0, .int i1, .int i2, .int (i3 >>> (1 &&& 31)), .int (i3 &&& 1)]) (st := []) csX11_351 dX11_isAtRest_17 rfl rfl (Nat.le_of_ble_eq_true rfl) (k1)) rfl
set_option maxRecDepth 8000 in
theorem qX11_isAtRest_20 {g : GG} {d : Nat} {M : MM} {P : Option Value → MM → Prop} {i0 : Int32} {i1 : Int32} {i2 : Int32} {i4 : Int32} {i5 : Int32} {s0 : Int32}
    (k1 : K0 g YX11_isAtRest YX11_gain d 32 [.int i0, .int i1, .int i2, .int (1 - i4), .int i5] [(0, .int i0), (1, .int i1), (2, .int i2), (4, .int i4), (5, .int i5)] [.int s0] M P) :
    E0 g YX11_isAtRest d 20 [(0, .int i0), (1, .int i1), (2, .int i2), (4, .int i4), (5, .int i5)] [.int s0] M P := by
  refine x_iload_n dX11_isAtRest_20 0 rfl ?_
  refine x_iload_n dX11_isAtRest_21 1 rfl ?_
  refine x_iload_n dX11_isAtRest_22 2 rfl ?_
  refine x_iconst (v := 1) dX11_isAtRest_23 (by decide) ?_
  refine x_iload dX11_isAtRest_24 3 rfl ?_
  refine x_isub dX11_isAtRest_26 ?_
  refine x_iload dX11_isAtRest_27 4 rfl ?_
  refine EX.sub [0, 1, 2, 3, 4] (K0.s (As := [.int i0, .int i1, .int i2, .int (1 - i4), .int i5]) (st := [.int s0]) csX11_351 dX11_isAtRest_29 rfl rfl (Nat.le_of_ble_eq_true rfl) (k1)) rfl
set_option maxRecDepth 8000 in
theorem qX11_isAtRest_32 {g : GG} {d : Nat} {M : MM} {P : Option Value → MM → Prop} {i0 : Int32} {i1 : Int32} {i2 : Int32} {i4 : Int32} {i5 : Int32} {s0 : Int32} {s1 : Int32}
    (k1 : s0 < s1 → P (some (.int 0)) M)
    (k2 : ¬ (s0 < s1) → K0 g YX11_isAtRest YX11_gain d 45 [.int i0, .int i1, .int i2, .int i5, .int i4] [(0, .int i0), (1, .int i1), (2, .int i2), (4, .int i4), (5, .int i5)] [] M P) :
    E0 g YX11_isAtRest d 32 [(0, .int i0), (1, .int i1), (2, .int i2), (4, .int i4), (5, .int i5)] [.int s1, .int s0] M P := by
  refine x_ic_lt 64 dX11_isAtRest_32 (by decide) (fun c1 => ?_) (fun c1 => ?_)
  · refine x_iconst (v := 0) dX11_isAtRest_64 (by decide) ?_
    exact x_zret rfl dX11_isAtRest_65 rfl (Nat.le_refl _) (Nat.le_refl _) (k1 c1)
  · refine x_iload_n dX11_isAtRest_35 0 rfl ?_
    refine x_iload_n dX11_isAtRest_36 1 rfl ?_
    refine x_iload_n dX11_isAtRest_37 2 rfl ?_
    refine x_iload dX11_isAtRest_38 4 rfl ?_
    refine x_iload dX11_isAtRest_40 3 rfl ?_
    refine EX.sub [0, 1, 2, 3, 4] (K0.s (As := [.int i0, .int i1, .int i2, .int i5, .int i4]) (st := []) csX11_351 dX11_isAtRest_42 rfl rfl (Nat.le_of_ble_eq_true rfl) (k2 c1)) rfl
set_option maxRecDepth 8000 in
theorem qX11_isAtRest_45 {g : GG} {d : Nat} {M : MM} {P : Option Value → MM → Prop} {i0 : Int32} {i1 : Int32} {i2 : Int32} {i4 : Int32} {i5 : Int32} {s0 : Int32}
    (k1 : K0 g YX11_isAtRest YX11_gain d 57 [.int i0, .int i1, .int i2, .int (1 - i5), .int i4] [] [.int s0] M P) :
    E0 g YX11_isAtRest d 45 [(0, .int i0), (1, .int i1), (2, .int i2), (4, .int i4), (5, .int i5)] [.int s0] M P := by
  refine x_iload_n dX11_isAtRest_45 0 rfl ?_
  refine x_iload_n dX11_isAtRest_46 1 rfl ?_
  refine x_iload_n dX11_isAtRest_47 2 rfl ?_
  refine x_iconst (v := 1) dX11_isAtRest_48 (by decide) ?_
  refine x_iload dX11_isAtRest_49 4 rfl ?_
  refine x_isub dX11_isAtRest_51 ?_
  refine x_iload dX11_isAtRest_52 3 rfl ?_
  refine EX.sub [] (K0.s (As := [.int i0, .int i1, .int i2, .int (1 - i5), .int i4]) (st := [.int s0]) csX11_351 dX11_isAtRest_54 rfl rfl (Nat.le_of_ble_eq_true rfl) (k1)) rfl
set_option maxRecDepth 8000 in
theorem qX11_isAtRest_57 {g : GG} {d : Nat} {M : MM} {P : Option Value → MM → Prop} {s0 : Int32} {s1 : Int32}
    (k1 : s0 < s1 → P (some (.int 0)) M)
    (k2 : ¬ (s0 < s1) → P (some (.int 1)) M) :
    E0 g YX11_isAtRest d 57 [] [.int s1, .int s0] M P := by
  refine x_ic_lt 64 dX11_isAtRest_57 (by decide) (fun c1 => ?_) (fun c1 => ?_)
  · refine x_iconst (v := 0) dX11_isAtRest_64 (by decide) ?_
    exact x_zret rfl dX11_isAtRest_65 rfl (Nat.le_refl _) (Nat.le_refl _) (k1 c1)
  · refine x_iconst (v := 1) dX11_isAtRest_60 (by decide) ?_
    refine x_goto 65 dX11_isAtRest_61 (by decide) ?_
    exact x_zret rfl dX11_isAtRest_65 rfl (Nat.le_refl _) (Nat.le_refl _) (k2 c1)
set_option maxRecDepth 8000 in
theorem qX11_gain_0 {g : GG} {d : Nat} {M : MM} {P : Option Value → MM → Prop} {i0 : Int32} {i1 : Int32} {i2 : Int32} {i3 : Int32} {i4 : Int32}
    (k1 : ¬ i3 = i4 → ¬ i3 = 1 → P (some (.int 0)) M)
    (k2 : ¬ i3 = i4 → i3 = 1 → P (some (.int i2)) M)
    (k3 : i3 = i4 → ¬ i3 = 1 → P (some (.int i1)) M)
    (k4 : i3 = i4 → i3 = 1 → P (some (.int i0)) M) :
    E0 g YX11_gain d 0 [(0, .int i0), (1, .int i1), (2, .int i2), (3, .int i3), (4, .int i4)] [] M P := by
  refine x_iload_n dX11_gain_0 3 rfl ?_
  refine x_iload dX11_gain_1 4 rfl ?_
  refine x_ic_ne 17 dX11_gain_3 (by decide) (fun c1 => ?_) (fun c1 => ?_)
  · refine x_iload_n dX11_gain_17 3 rfl ?_
    refine x_iconst (v := 1) dX11_gain_18 (by decide) ?_
    refine x_ic_ne 26 dX11_gain_19 (by decide) (fun c2 => ?_) (fun c2 => ?_)
    · refine x_iconst (v := 0) dX11_gain_26 (by decide) ?_
      exact x_iret rfl dX11_gain_27 (Nat.le_refl _) (Nat.le_refl _) (k1 c1 c2)
    · refine x_iload_n dX11_gain_22 2 rfl ?_
      refine x_goto 27 dX11_gain_23 (by decide) ?_
      exact x_iret rfl dX11_gain_27 (Nat.le_refl _) (Nat.le_refl _) (k2 c1 c2)
  · refine x_iload_n dX11_gain_6 3 rfl ?_
    refine x_iconst (v := 1) dX11_gain_7 (by decide) ?_
    refine x_ic_ne 15 dX11_gain_8 (by decide) (fun c2 => ?_) (fun c2 => ?_)
    · refine x_iload_n dX11_gain_15 1 rfl ?_
      exact x_iret rfl dX11_gain_16 (Nat.le_refl _) (Nat.le_refl _) (k3 c1 c2)
    · refine x_iload_n dX11_gain_11 0 rfl ?_
      refine x_goto 16 dX11_gain_12 (by decide) ?_
      exact x_iret rfl dX11_gain_16 (Nat.le_refl _) (Nat.le_refl _) (k4 c1 c2)
