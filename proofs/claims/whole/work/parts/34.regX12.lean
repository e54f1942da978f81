set_option maxRecDepth 8000 in
theorem qX12_thrown_0 {g : GG} {d : Nat} {M : MM} {P : Option Value → MM → Prop}  {la lb pa pb rl : Nat} (L : Lay M la lb pa pb rl)
    (k1 : P (some (.int (mi M 130 0))) M) :
    E0 g YX12_thrown d 0 [(0, .ref 130)] [] M P := by
  have f1 : ob M 130 12 := L.s rfl (by decide)
  refine x_aload_n dX12_thrown_0 0 rfl ?_
  refine x_getI fdX12_138 rfl dX12_thrown_1 f1.1 f1.2 ?_
  exact x_iret rfl dX12_thrown_4 (Nat.le_refl _) (Nat.le_refl _) (k1)
set_option maxRecDepth 8000 in
theorem qX12_within_0 {g : GG} {d : Nat} {M : MM} {P : Option Value → MM → Prop} {i0 : Int32} {i1 : Int32} {i2 : Int32}
    (k1 : i0 < i1 → P (some (.int 0)) M)
    (k2 : ¬ (i0 < i1) → i2 < i0 → P (some (.int 0)) M)
    (k3 : ¬ (i0 < i1) → ¬ (i2 < i0) → P (some (.int 1)) M) :
    E0 g YX12_within d 0 [(0, .int i0), (1, .int i1), (2, .int i2)] [] M P := by
  refine x_iload_n dX12_within_0 0 rfl ?_
  refine x_iload_n dX12_within_1 1 rfl ?_
  refine x_ic_lt 14 dX12_within_2 (by decide) (fun c1 => ?_) (fun c1 => ?_)
  · refine x_iconst (v := 0) dX12_within_14 (by decide) ?_
    exact x_zret rfl dX12_within_15 rfl (Nat.le_refl _) (Nat.le_refl _) (k1 c1)
  · refine x_iload_n dX12_within_5 0 rfl ?_
    refine x_iload_n dX12_within_6 2 rfl ?_
    refine x_ic_gt 14 dX12_within_7 (by decide) (fun c2 => ?_) (fun c2 => ?_)
    · refine x_iconst (v := 0) dX12_within_14 (by decide) ?_
      exact x_zret rfl dX12_within_15 rfl (Nat.le_refl _) (Nat.le_refl _) (k2 c1 c2)
    · refine x_iconst (v := 1) dX12_within_10 (by decide) ?_
      refine x_goto 15 dX12_within_11 (by decide) ?_
      exact x_zret rfl dX12_within_15 rfl (Nat.le_refl _) (Nat.le_refl _) (k3 c1 c2)
set_option maxRecDepth 8000 in
theorem qX12_bits_0 {g : GG} {d : Nat} {M : MM} {P : Option Value → MM → Prop} {i0 : Int32}
    (k1 : E0 g YX12_bits d 4 [(0, .int i0), (1, .int 0), (2, .int 0)] [] M P) :
    E0 g YX12_bits d 0 [(0, .int i0)] [] M P := by
  refine x_iconst (v := 0) dX12_bits_0 (by decide) ?_
  refine x_istore_n (lv1 := [(1, .int 0), (0, .int i0)]) dX12_bits_1 (by decide) rfl ?_
  refine x_iconst (v := 0) dX12_bits_2 (by decide) ?_
  refine x_istore_n (lv1 := [(2, .int 0), (1, .int 0), (0, .int i0)]) dX12_bits_3 (by decide) rfl ?_
  exact EX.sub [2, 1, 0] k1 rfl
set_option maxRecDepth 8000 in
theorem qX12_bits_4 {g : GG} {d : Nat} {M : MM} {P : Option Value → MM → Prop} {i0 : Int32} {i1 : Int32} {i2 : Int32}
    (k1 : 10 ≤ i2 → P (some (.int i1)) M)
    (k2 : ¬ (10 ≤ i2) → E0 g YX12_bits d 4 [(0, .int i0), (1, .int (i1 + ((i0 >>> (i2 &&& 31)) &&& 1))), (2, .int (i2 + 1))] [] M P) :
    E0 g YX12_bits d 4 [(0, .int i0), (1, .int i1), (2, .int i2)] [] M P := by
  refine x_iload_n dX12_bits_4 2 rfl ?_
  refine x_bipush (v := 10) dX12_bits_5 (by decide) ?_
  refine x_ic_ge 24 dX12_bits_7 (by decide) (fun c1 => ?_) (fun c1 => ?_)
  · refine x_iload_n dX12_bits_24 1 rfl ?_
    exact x_iret rfl dX12_bits_25 (Nat.le_refl _) (Nat.le_refl _) (k1 c1)
  · refine x_iload_n dX12_bits_10 1 rfl ?_
    refine x_iload_n dX12_bits_11 0 rfl ?_
    refine x_iload_n dX12_bits_12 2 rfl ?_
    refine x_ishr dX12_bits_13 ?_
    refine x_iconst (v := 1) dX12_bits_14 (by decide) ?_
    refine x_iand dX12_bits_15 ?_
    refine x_iadd dX12_bits_16 ?_
    refine x_istore_n (lv1 := [(1, .int (i1 + ((i0 >>> (i2 &&& 31)) &&& 1))), (0, .int i0), (2, .int i2)]) dX12_bits_17 (by decide) rfl ?_
    refine x_iinc (v := (i2 + 1)) (lv1 := [(2, .int (i2 + 1)), (1, .int (i1 + ((i0 >>> (i2 &&& 31)) &&& 1))), (0, .int i0)]) dX12_bits_18 2 rfl rfl (by decide) rfl ?_
    refine x_goto 4 dX12_bits_21 (by decide) ?_
    exact EX.sub [2, 1, 0] (k2 c1) rfl
set_option maxRecDepth 8000 in
theorem qX12_feed_0 {g : GG} {d : Nat} {M : MM} {P : Option Value → MM → Prop} {j1 : Int64} {j3 : Int64} {j5 : Int64} {M1 : MM} {la lb pa pb rl : Nat} (L : Lay M la lb pa pb rl)
    (qM1 : M1 = wi M 130 0 0)
    (k1 : E0 g YX12_feed d 8 [(0, .ref 130), (1, .long j1), (3, .long j3), (5, .long j5), (7, .int 0)] [] M1 P) :
    E0 g YX12_feed d 0 [(0, .ref 130), (1, .long j1), (3, .long j3), (5, .long j5)] [] M P := by
  have f1 : ob M 130 12 := L.s rfl (by decide)
  subst qM1
  refine x_aload_n dX12_feed_0 0 rfl ?_
  refine x_iconst (v := 0) dX12_feed_1 (by decide) ?_
  refine x_putI fdX12_138 rfl (Or.inl rfl) dX12_feed_2 f1.1 f1.2 rfl rfl ?_
  refine x_iconst (v := 0) dX12_feed_5 (by decide) ?_
  refine x_istore (lv1 := [(7, .int 0), (0, .ref 130), (1, .long j1), (3, .long j3), (5, .long j5)]) dX12_feed_6 (by decide) rfl ?_
  exact EX.sub [1, 2, 3, 4, 0] k1 rfl
set_option maxRecDepth 8000 in
theorem qX12_feed_8 {g : GG} {d : Nat} {M : MM} {P : Option Value → MM → Prop} {j1 : Int64} {j3 : Int64} {j5 : Int64} {i7 : Int32} {la lb pa pb rl : Nat} (L : Lay M la lb pa pb rl)
    (k1 : 24 ≤ i7 → P (some (.int (mi M 130 1))) M)
    (k2 : ¬ (24 ≤ i7) → 8 ≤ i7 → 16 ≤ i7 → E0 g YX12_feed d 39 [(0, .ref 130), (1, .long j1), (3, .long j3), (5, .long j5), (7, .int i7)] [.long j5] M P)
    (k3 : ¬ (24 ≤ i7) → 8 ≤ i7 → ¬ (16 ≤ i7) → E0 g YX12_feed d 39 [(0, .ref 130), (1, .long j1), (3, .long j3), (5, .long j5), (7, .int i7)] [.long j3] M P)
    (k4 : ¬ (24 ≤ i7) → ¬ (8 ≤ i7) → E0 g YX12_feed d 39 [(0, .ref 130), (1, .long j1), (3, .long j3), (5, .long j5), (7, .int i7)] [.long j1] M P) :
    E0 g YX12_feed d 8 [(0, .ref 130), (1, .long j1), (3, .long j3), (5, .long j5), (7, .int i7)] [] M P := by
  have f1 : ob M 130 12 := L.s rfl (by decide)
  refine x_iload dX12_feed_8 4 rfl ?_
  refine x_bipush (v := 24) dX12_feed_10 (by decide) ?_
  refine x_ic_ge 120 dX12_feed_12 (by decide) (fun c1 => ?_) (fun c1 => ?_)
  · refine x_aload_n dX12_feed_120 0 rfl ?_
    refine x_getI fdX12_144 rfl dX12_feed_121 f1.1 f1.2 ?_
    exact x_iret rfl dX12_feed_124 (Nat.le_refl _) (Nat.le_refl _) (k1 c1)
  · refine x_iload dX12_feed_15 4 rfl ?_
    refine x_bipush (v := 8) dX12_feed_17 (by decide) ?_
    refine x_ic_ge 26 dX12_feed_19 (by decide) (fun c2 => ?_) (fun c2 => ?_)
    · refine x_iload dX12_feed_26 4 rfl ?_
      refine x_bipush (v := 16) dX12_feed_28 (by decide) ?_
      refine x_ic_ge 37 dX12_feed_30 (by decide) (fun c3 => ?_) (fun c3 => ?_)
      · refine x_lload dX12_feed_37 3 rfl ?_
        exact EX.sub [0, 1, 2, 3, 4] (k2 c1 c2 c3) rfl
      · refine x_lload_n dX12_feed_33 2 rfl ?_
        refine x_goto 39 dX12_feed_34 (by decide) ?_
        exact EX.sub [0, 1, 2, 3, 4] (k3 c1 c2 c3) rfl
    · refine x_lload_n dX12_feed_22 1 rfl ?_
      refine x_goto 39 dX12_feed_23 (by decide) ?_
      exact EX.sub [0, 1, 2, 3, 4] (k4 c1 c2) rfl
set_option maxRecDepth 8000 in
theorem qX12_feed_39 {g : GG} {d : Nat} {M : MM} {P : Option Value → MM → Prop} {j1 : Int64} {j3 : Int64} {j5 : Int64} {i7 : Int32} {s0 : Int64} {M1 : MM} {M2 : MM} {M3 : MM} {M4 : MM} {la lb pa pb rl : Nat} (L : Lay M la lb pa pb rl)
    (qM1 : M1 = wi M 131 ((mi M 130 1) : Int32).toNatClampNeg ((((s0 : Int64).toUInt64 >>> (((56 - (8 * (i7 &&& 7))) : Int32).toInt64.toUInt64 &&& Int64.toUInt64 63)).toInt64 &&& (255)) : Int64).toInt32)
    (qM2 : M2 = wi M1 130 1 ((mi M1 130 1) + 1))
    (qM3 : M3 = wi M 131 ((mi M 130 1) : Int32).toNatClampNeg ((((s0 : Int64).toUInt64 >>> (((56 - (8 * (i7 &&& 7))) : Int32).toInt64.toUInt64 &&& Int64.toUInt64 63)).toInt64 &&& (255)) : Int64).toInt32)
    (qM4 : M4 = wi M3 130 1 ((mi M3 130 1) + 1))
    (h1 : ¬ (1000 ≤ (mi M 130 1)) → ((((s0 : Int64).toUInt64 >>> (((56 - (8 * (i7 &&& 7))) : Int32).toInt64.toUInt64 &&& Int64.toUInt64 63)).toInt64 &&& (255)) : Int64).toInt32 = 10 → vp_in (mi M 130 1) 1000)
    (h2 : ¬ (1000 ≤ (mi M 130 1)) → ¬ (((((s0 : Int64).toUInt64 >>> (((56 - (8 * (i7 &&& 7))) : Int32).toInt64.toUInt64 &&& Int64.toUInt64 63)).toInt64 &&& (255)) : Int64).toInt32 = 10) → ¬ (((((s0 : Int64).toUInt64 >>> (((56 - (8 * (i7 &&& 7))) : Int32).toInt64.toUInt64 &&& Int64.toUInt64 63)).toInt64 &&& (255)) : Int64).toInt32 < 32) → ¬ (126 < ((((s0 : Int64).toUInt64 >>> (((56 - (8 * (i7 &&& 7))) : Int32).toInt64.toUInt64 &&& Int64.toUInt64 63)).toInt64 &&& (255)) : Int64).toInt32) → vp_in (mi M 130 1) 1000)
    (k1 : 1000 ≤ (mi M 130 1) → E0 g YX12_feed d 114 [(0, .ref 130), (1, .long j1), (3, .long j3), (5, .long j5), (7, .int i7)] [] M P)
    (k2 : ¬ (1000 ≤ (mi M 130 1)) → ((((s0 : Int64).toUInt64 >>> (((56 - (8 * (i7 &&& 7))) : Int32).toInt64.toUInt64 &&& Int64.toUInt64 63)).toInt64 &&& (255)) : Int64).toInt32 = 10 → E0 g YX12_feed d 114 [(0, .ref 130), (1, .long j1), (3, .long j3), (5, .long j5), (7, .int i7)] [] M2 P)
    (k3 : ¬ (1000 ≤ (mi M 130 1)) → ¬ (((((s0 : Int64).toUInt64 >>> (((56 - (8 * (i7 &&& 7))) : Int32).toInt64.toUInt64 &&& Int64.toUInt64 63)).toInt64 &&& (255)) : Int64).toInt32 = 10) → ((((s0 : Int64).toUInt64 >>> (((56 - (8 * (i7 &&& 7))) : Int32).toInt64.toUInt64 &&& Int64.toUInt64 63)).toInt64 &&& (255)) : Int64).toInt32 < 32 → E0 g YX12_feed d 114 [(0, .ref 130), (1, .long j1), (3, .long j3), (5, .long j5), (7, .int i7)] [] M P)
    (k4 : ¬ (1000 ≤ (mi M 130 1)) → ¬ (((((s0 : Int64).toUInt64 >>> (((56 - (8 * (i7 &&& 7))) : Int32).toInt64.toUInt64 &&& Int64.toUInt64 63)).toInt64 &&& (255)) : Int64).toInt32 = 10) → ¬ (((((s0 : Int64).toUInt64 >>> (((56 - (8 * (i7 &&& 7))) : Int32).toInt64.toUInt64 &&& Int64.toUInt64 63)).toInt64 &&& (255)) : Int64).toInt32 < 32) → 126 < ((((s0 : Int64).toUInt64 >>> (((56 - (8 * (i7 &&& 7))) : Int32).toInt64.toUInt64 &&& Int64.toUInt64 63)).toInt64 &&& (255)) : Int64).toInt32 → E0 g YX12_feed d 114 [(0, .ref 130), (1, .long j1), (3, .long j3), (5, .long j5), (7, .int i7)] [] M P)
    (k5 : ¬ (1000 ≤ (mi M 130 1)) → ¬ (((((s0 : Int64).toUInt64 >>> (((56 - (8 * (i7 &&& 7))) : Int32).toInt64.toUInt64 &&& Int64.toUInt64 63)).toInt64 &&& (255)) : Int64).toInt32 = 10) → ¬ (((((s0 : Int64).toUInt64 >>> (((56 - (8 * (i7 &&& 7))) : Int32).toInt64.toUInt64 &&& Int64.toUInt64 63)).toInt64 &&& (255)) : Int64).toInt32 < 32) → ¬ (126 < ((((s0 : Int64).toUInt64 >>> (((56 - (8 * (i7 &&& 7))) : Int32).toInt64.toUInt64 &&& Int64.toUInt64 63)).toInt64 &&& (255)) : Int64).toInt32) → E0 g YX12_feed d 114 [(0, .ref 130), (1, .long j1), (3, .long j3), (5, .long j5), (7, .int i7)] [] M4 P) :
    E0 g YX12_feed d 39 [(0, .ref 130), (1, .long j1), (3, .long j3), (5, .long j5), (7, .int i7)] [.long s0] M P := by
  have f1 : ob M 130 12 := L.s rfl (by decide)
  have f2 : mr M 130 2 = some 131 := L.r 126 rfl
  have f3 : ar M 131 1 1000 := L.s rfl (by decide)
  subst qM1 qM2 qM3 qM4
  refine x_lstore (lv1 := [(8, .long s0), (0, .ref 130), (1, .long j1), (3, .long j3), (5, .long j5), (7, .int i7)]) dX12_feed_39 (by decide) rfl ?_
  refine x_lload dX12_feed_41 0 rfl ?_
  refine x_bipush (v := 56) dX12_feed_43 (by decide) ?_
  refine x_bipush (v := 8) dX12_feed_45 (by decide) ?_
  refine x_iload dX12_feed_47 5 rfl ?_
  refine x_bipush (v := 7) dX12_feed_49 (by decide) ?_
  refine x_iand dX12_feed_51 ?_
  refine x_imul dX12_feed_52 ?_
  refine x_isub dX12_feed_53 ?_
  refine x_lushr dX12_feed_54 ?_
  refine x_ldc2 dX12_feed_55 kcX12_142 ?_
  refine x_land dX12_feed_58 ?_
  refine x_l2i dX12_feed_59 ?_
  refine x_istore (lv1 := [(10, .int ((((s0 : Int64).toUInt64 >>> (((56 - (8 * (i7 &&& 7))) : Int32).toInt64.toUInt64 &&& Int64.toUInt64 63)).toInt64 &&& (255)) : Int64).toInt32), (8, .long s0), (0, .ref 130), (1, .long j1), (3, .long j3), (5, .long j5), (7, .int i7)]) dX12_feed_60 (by decide) rfl ?_
  refine x_aload_n dX12_feed_62 2 rfl ?_
  refine x_getI fdX12_144 rfl dX12_feed_63 f1.1 f1.2 ?_
  refine x_sipush (v := 1000) dX12_feed_66 (by decide) ?_
  refine x_ic_ge 114 dX12_feed_69 (by decide) (fun c1 => ?_) (fun c1 => ?_)
  · exact EX.sub [2, 3, 4, 5, 6] (k1 c1) rfl
  · refine x_iload dX12_feed_72 0 rfl ?_
    refine x_bipush (v := 10) dX12_feed_74 (by decide) ?_
    refine x_ic_eq 93 dX12_feed_76 (by decide) (fun c2 => ?_) (fun c2 => ?_)
    · refine x_aload_n dX12_feed_93 2 rfl ?_
      refine x_getR fdX12_7 rfl dX12_feed_94 f1.1 f1.2 f2 ?_
      refine x_aload_n dX12_feed_97 2 rfl ?_
      refine x_getI fdX12_144 rfl dX12_feed_98 f1.1 f1.2 ?_
      refine x_iload dX12_feed_101 0 rfl ?_
      refine x_iast dX12_feed_103 f3.1 f3.2 (h1 c1 c2) ?_
      refine x_aload_n dX12_feed_104 2 rfl ?_
      refine x_dup dX12_feed_105 rfl ?_
      refine x_getI fdX12_144 rfl dX12_feed_106 f1.1 f1.2 ?_
      refine x_iconst (v := 1) dX12_feed_109 (by decide) ?_
      refine x_iadd dX12_feed_110 ?_
      refine x_putI fdX12_144 rfl (Or.inl rfl) dX12_feed_111 f1.1 f1.2 rfl rfl ?_
      exact EX.sub [2, 3, 4, 5, 6] (k2 c1 c2) rfl
    · refine x_iload dX12_feed_79 0 rfl ?_
      refine x_bipush (v := 32) dX12_feed_81 (by decide) ?_
      refine x_ic_lt 114 dX12_feed_83 (by decide) (fun c3 => ?_) (fun c3 => ?_)
      · exact EX.sub [2, 3, 4, 5, 6] (k3 c1 c2 c3) rfl
      · refine x_iload dX12_feed_86 0 rfl ?_
        refine x_bipush (v := 126) dX12_feed_88 (by decide) ?_
        refine x_ic_gt 114 dX12_feed_90 (by decide) (fun c4 => ?_) (fun c4 => ?_)
        · exact EX.sub [2, 3, 4, 5, 6] (k4 c1 c2 c3 c4) rfl
        · refine x_aload_n dX12_feed_93 2 rfl ?_
          refine x_getR fdX12_7 rfl dX12_feed_94 f1.1 f1.2 f2 ?_
          refine x_aload_n dX12_feed_97 2 rfl ?_
          refine x_getI fdX12_144 rfl dX12_feed_98 f1.1 f1.2 ?_
          refine x_iload dX12_feed_101 0 rfl ?_
          refine x_iast dX12_feed_103 f3.1 f3.2 (h2 c1 c2 c3 c4) ?_
          refine x_aload_n dX12_feed_104 2 rfl ?_
          refine x_dup dX12_feed_105 rfl ?_
          refine x_getI fdX12_144 rfl dX12_feed_106 f1.1 f1.2 ?_
          refine x_iconst (v := 1) dX12_feed_109 (by decide) ?_
          refine x_iadd dX12_feed_110 ?_
          refine x_putI fdX12_144 rfl (Or.inl rfl) dX12_feed_111 f1.1 f1.2 rfl rfl ?_
          exact EX.sub [2, 3, 4, 5, 6] (k5 c1 c2 c3 c4) rfl
set_option maxRecDepth 8000 in
theorem qX12_feed_114 {g : GG} {d : Nat} {M : MM} {P : Option Value → MM → Prop} {j1 : Int64} {j3 : Int64} {j5 : Int64} {i7 : Int32}
    (k1 : E0 g YX12_feed d 8 [(0, .ref 130), (1, .long j1), (3, .long j3), (5, .long j5), (7, .int (i7 + 1))] [] M P) :
    E0 g YX12_feed d 114 [(0, .ref 130), (1, .long j1), (3, .long j3), (5, .long j5), (7, .int i7)] [] M P := by
  refine x_iinc (v := (i7 + 1)) (lv1 := [(7, .int (i7 + 1)), (0, .ref 130), (1, .long j1), (3, .long j3), (5, .long j5)]) dX12_feed_114 4 rfl rfl (by decide) rfl ?_
  refine x_goto 8 dX12_feed_117 (by decide) ?_
  exact EX.sub [1, 2, 3, 4, 0] k1 rfl
set_option maxRecDepth 8000 in
theorem qX12_signAt_0 {g : GG} {d : Nat} {M : MM} {P : Option Value → MM → Prop} {i1 : Int32} {la lb pa pb rl : Nat} (L : Lay M la lb pa pb rl)
    (h1 : ¬ ((mi M 130 3) ≤ i1) → vp_in i1 1000)
    (k1 : (mi M 130 3) ≤ i1 → P (some (.int 0)) M)
    (k2 : ¬ ((mi M 130 3) ≤ i1) → P (some (.int (mi M 131 (i1 : Int32).toNatClampNeg))) M) :
    E0 g YX12_signAt d 0 [(0, .ref 130), (1, .int i1)] [] M P := by
  have f1 : ob M 130 12 := L.s rfl (by decide)
  have f2 : mr M 130 2 = some 131 := L.r 126 rfl
  have f3 : ar M 131 1 1000 := L.s rfl (by decide)
  refine x_iload_n dX12_signAt_0 1 rfl ?_
  refine x_aload_n dX12_signAt_1 0 rfl ?_
  refine x_getI fdX12_147 rfl dX12_signAt_2 f1.1 f1.2 ?_
  refine x_ic_ge 17 dX12_signAt_5 (by decide) (fun c1 => ?_) (fun c1 => ?_)
  · refine x_iconst (v := 0) dX12_signAt_17 (by decide) ?_
    exact x_iret rfl dX12_signAt_18 (Nat.le_refl _) (Nat.le_refl _) (k1 c1)
  · refine x_aload_n dX12_signAt_8 0 rfl ?_
    refine x_getR fdX12_7 rfl dX12_signAt_9 f1.1 f1.2 f2 ?_
    refine x_iload_n dX12_signAt_12 1 rfl ?_
    refine x_iald dX12_signAt_13 f3.1 f3.2 (h1 c1) ?_
    refine x_goto 18 dX12_signAt_14 (by decide) ?_
    exact x_iret rfl dX12_signAt_18 (Nat.le_refl _) (Nat.le_refl _) (k2 c1)
set_option maxRecDepth 8000 in
theorem qX12_nextToken_0 {g : GG} {d : Nat} {M : MM} {P : Option Value → MM → Prop}  {la lb pa pb rl : Nat} (L : Lay M la lb pa pb rl)
    (h1 : ¬ ((mi M 130 3) ≤ (mi M 130 4)) → vp_in (mi M 130 4) 1000)
    (h2 : ¬ ((mi M 130 3) ≤ (mi M 130 4)) → ¬ ((mi M 131 ((mi M 130 4) : Int32).toNatClampNeg) = 32) → vp_in (mi M 130 4) 1000)
    (k1 : (mi M 130 3) ≤ (mi M 130 4) → E0 g YX12_nextToken d 52 [(0, .ref 130)] [] M P)
    (k2 : ¬ ((mi M 130 3) ≤ (mi M 130 4)) → (mi M 131 ((mi M 130 4) : Int32).toNatClampNeg) = 32 → E0 g YX12_nextToken d 39 [(0, .ref 130)] [] M P)
    (k3 : ¬ ((mi M 130 3) ≤ (mi M 130 4)) → ¬ ((mi M 131 ((mi M 130 4) : Int32).toNatClampNeg) = 32) → ¬ (mi M 131 ((mi M 130 4) : Int32).toNatClampNeg) = 10 → E0 g YX12_nextToken d 52 [(0, .ref 130)] [] M P)
    (k4 : ¬ ((mi M 130 3) ≤ (mi M 130 4)) → ¬ ((mi M 131 ((mi M 130 4) : Int32).toNatClampNeg) = 32) → (mi M 131 ((mi M 130 4) : Int32).toNatClampNeg) = 10 → E0 g YX12_nextToken d 39 [(0, .ref 130)] [] M P) :
    E0 g YX12_nextToken d 0 [(0, .ref 130)] [] M P := by
  have f1 : ob M 130 12 := L.s rfl (by decide)
  have f2 : mr M 130 2 = some 131 := L.r 126 rfl
  have f3 : ar M 131 1 1000 := L.s rfl (by decide)
  refine x_aload_n dX12_nextToken_0 0 rfl ?_
  refine x_getI fdX12_150 rfl dX12_nextToken_1 f1.1 f1.2 ?_
  refine x_aload_n dX12_nextToken_4 0 rfl ?_
  refine x_getI fdX12_147 rfl dX12_nextToken_5 f1.1 f1.2 ?_
  refine x_ic_ge 52 dX12_nextToken_8 (by decide) (fun c1 => ?_) (fun c1 => ?_)
  · exact EX.sub [0] (k1 c1) rfl
  · refine x_aload_n dX12_nextToken_11 0 rfl ?_
    refine x_getR fdX12_7 rfl dX12_nextToken_12 f1.1 f1.2 f2 ?_
    refine x_aload_n dX12_nextToken_15 0 rfl ?_
    refine x_getI fdX12_150 rfl dX12_nextToken_16 f1.1 f1.2 ?_
    refine x_iald dX12_nextToken_19 f3.1 f3.2 (h1 c1) ?_
    refine x_bipush (v := 32) dX12_nextToken_20 (by decide) ?_
    refine x_ic_eq 39 dX12_nextToken_22 (by decide) (fun c2 => ?_) (fun c2 => ?_)
    · exact EX.sub [0] (k2 c1 c2) rfl
    · refine x_aload_n dX12_nextToken_25 0 rfl ?_
      refine x_getR fdX12_7 rfl dX12_nextToken_26 f1.1 f1.2 f2 ?_
      refine x_aload_n dX12_nextToken_29 0 rfl ?_
      refine x_getI fdX12_150 rfl dX12_nextToken_30 f1.1 f1.2 ?_
      refine x_iald dX12_nextToken_33 f3.1 f3.2 (h2 c1 c2) ?_
      refine x_bipush (v := 10) dX12_nextToken_34 (by decide) ?_
      refine x_ic_ne 52 dX12_nextToken_36 (by decide) (fun c3 => ?_) (fun c3 => ?_)
      · exact EX.sub [0] (k3 c1 c2 c3) rfl
      · exact EX.sub [0] (k4 c1 c2 c3) rfl
set_option maxRecDepth 8000 in
theorem qX12_nextToken_39 {g : GG} {d : Nat} {M : MM} {P : Option Value → MM → Prop}  {M1 : MM} {la lb pa pb rl : Nat} (L : Lay M la lb pa pb rl)
    (qM1 : M1 = wi M 130 4 ((mi M 130 4) + 1))
    (k1 : E0 g YX12_nextToken d 0 [(0, .ref 130)] [] M1 P) :
    E0 g YX12_nextToken d 39 [(0, .ref 130)] [] M P := by
  have f1 : ob M 130 12 := L.s rfl (by decide)
  subst qM1
  refine x_aload_n dX12_nextToken_39 0 rfl ?_
  refine x_dup dX12_nextToken_40 rfl ?_
  refine x_getI fdX12_150 rfl dX12_nextToken_41 f1.1 f1.2 ?_
  refine x_iconst (v := 1) dX12_nextToken_44 (by decide) ?_
  refine x_iadd dX12_nextToken_45 ?_
  refine x_putI fdX12_150 rfl (Or.inl rfl) dX12_nextToken_46 f1.1 f1.2 rfl rfl ?_
  refine x_goto 0 dX12_nextToken_49 (by decide) ?_
  exact EX.sub [0] k1 rfl
set_option maxRecDepth 8000 in
theorem qX12_nextToken_52 {g : GG} {d : Nat} {M : MM} {P : Option Value → MM → Prop}  {M1 : MM} {M2 : MM} {M3 : MM} {M4 : MM} {la lb pa pb rl : Nat} (L : Lay M la lb pa pb rl)
    (qM1 : M1 = wi M 130 5 (mi M 130 4))
    (qM2 : M2 = wj M1 130 7 0)
    (qM3 : M3 = wi M2 130 8 0)
    (qM4 : M4 = wi M3 130 6 0)
    (h1 : ¬ (mi M3 130 4) = (mi M3 130 3) → vp_in (mi M3 130 4) 1000)
    (k1 : ¬ (mi M3 130 4) = (mi M3 130 3) → (mi M3 131 ((mi M3 130 4) : Int32).toNatClampNeg) < 97 → E0 g YX12_nextToken d 212 [(0, .ref 130), (1, .int (mi M3 131 ((mi M3 130 4) : Int32).toNatClampNeg))] [] M3 P)
    (k2 : ¬ (mi M3 130 4) = (mi M3 130 3) → ¬ ((mi M3 131 ((mi M3 130 4) : Int32).toNatClampNeg) < 97) → 122 < (mi M3 131 ((mi M3 130 4) : Int32).toNatClampNeg) → E0 g YX12_nextToken d 212 [(0, .ref 130), (1, .int (mi M3 131 ((mi M3 130 4) : Int32).toNatClampNeg))] [] M3 P)
    (k3 : ¬ (mi M3 130 4) = (mi M3 130 3) → ¬ ((mi M3 131 ((mi M3 130 4) : Int32).toNatClampNeg) < 97) → ¬ (122 < (mi M3 131 ((mi M3 130 4) : Int32).toNatClampNeg)) → E0 g YX12_nextToken d 109 [(0, .ref 130)] [] M3 P)
    (k4 : (mi M3 130 4) = (mi M3 130 3) → P none M4) :
    E0 g YX12_nextToken d 52 [(0, .ref 130)] [] M P := by
  have f1 : ob M 130 12 := L.s rfl (by decide)
  have f2 : mr M 130 2 = some 131 := L.r 126 rfl
  have f3 : ar M 131 1 1000 := L.s rfl (by decide)
  subst qM1 qM2 qM3 qM4
  let M1 : MM := wi M 130 5 (mi M 130 4)
  let M2 : MM := wj M1 130 7 0
  let M3 : MM := wi M2 130 8 0
  let M4 : MM := wi M3 130 6 0
  refine x_aload_n dX12_nextToken_52 0 rfl ?_
  refine x_aload_n dX12_nextToken_53 0 rfl ?_
  refine x_getI fdX12_150 rfl dX12_nextToken_54 f1.1 f1.2 ?_
  refine x_putI fdX12_153 rfl (Or.inl rfl) dX12_nextToken_57 f1.1 f1.2 rfl rfl ?_
  refine x_aload_n dX12_nextToken_60 0 rfl ?_
  refine x_lconst (v := 0) dX12_nextToken_61 (by decide) ?_
  refine x_putJ fdX12_156 rfl (Or.inl rfl) dX12_nextToken_62 f1.1 f1.2 ?_
  refine x_aload_n dX12_nextToken_65 0 rfl ?_
  refine x_iconst (v := 0) dX12_nextToken_66 (by decide) ?_
  refine x_putI fdX12_160 rfl (Or.inl rfl) dX12_nextToken_67 f1.1 f1.2 rfl rfl ?_
  refine x_aload_n dX12_nextToken_70 0 rfl ?_
  refine x_getI fdX12_150 rfl dX12_nextToken_71 f1.1 f1.2 ?_
  refine x_aload_n dX12_nextToken_74 0 rfl ?_
  refine x_getI fdX12_147 rfl dX12_nextToken_75 f1.1 f1.2 ?_
  refine x_ic_ne 87 dX12_nextToken_78 (by decide) (fun c1 => ?_) (fun c1 => ?_)
  · refine x_aload_n dX12_nextToken_87 0 rfl ?_
    refine x_getR fdX12_7 rfl dX12_nextToken_88 f1.1 f1.2 f2 ?_
    refine x_aload_n dX12_nextToken_91 0 rfl ?_
    refine x_getI fdX12_150 rfl dX12_nextToken_92 f1.1 f1.2 ?_
    refine x_iald dX12_nextToken_95 f3.1 f3.2 (h1 c1) ?_
    refine x_istore_n (lv1 := [(1, .int (mi M3 131 ((mi M3 130 4) : Int32).toNatClampNeg)), (0, .ref 130)]) dX12_nextToken_96 (by decide) rfl ?_
    refine x_iload_n dX12_nextToken_97 0 rfl ?_
    refine x_bipush (v := 97) dX12_nextToken_98 (by decide) ?_
    refine x_ic_lt 212 dX12_nextToken_100 (by decide) (fun c2 => ?_) (fun c2 => ?_)
    · exact EX.sub [1, 0] (k1 c1 c2) rfl
    · refine x_iload_n dX12_nextToken_103 0 rfl ?_
      refine x_bipush (v := 122) dX12_nextToken_104 (by decide) ?_
      refine x_ic_gt 212 dX12_nextToken_106 (by decide) (fun c3 => ?_) (fun c3 => ?_)
      · exact EX.sub [1, 0] (k2 c1 c2 c3) rfl
      · exact EX.sub [1] (k3 c1 c2 c3) rfl
  · refine x_aload_n dX12_nextToken_81 0 rfl ?_
    refine x_iconst (v := 0) dX12_nextToken_82 (by decide) ?_
    refine x_putI fdX12_163 rfl (Or.inl rfl) dX12_nextToken_83 f1.1 f1.2 rfl rfl ?_
    exact x_vret rfl dX12_nextToken_86 (Nat.le_refl _) (Nat.le_refl _) (k4 c1)
set_option maxRecDepth 8000 in
theorem qX12_nextToken_109 {g : GG} {d : Nat} {M : MM} {P : Option Value → MM → Prop}  {la lb pa pb rl : Nat} (L : Lay M la lb pa pb rl)
    (k1 : K0 g YX12_nextToken YX12_signAt d 117 [.ref 130, .int (mi M 130 4)] [(0, .ref 130)] [] M P) :
    E0 g YX12_nextToken d 109 [(0, .ref 130)] [] M P := by
  have f1 : ob M 130 12 := L.s rfl (by decide)
  refine x_aload_n dX12_nextToken_109 0 rfl ?_
  refine x_aload_n dX12_nextToken_110 0 rfl ?_
  refine x_getI fdX12_150 rfl dX12_nextToken_111 f1.1 f1.2 ?_
  refine EX.sub [0] (K0.v (As := [.int (mi M 130 4)]) (st := []) cvX12_166 dX12_nextToken_114 rfl rfl f1 rfl (Nat.le_of_ble_eq_true rfl) (k1)) rfl
set_option maxRecDepth 8000 in
theorem qX12_nextToken_117 {g : GG} {d : Nat} {M : MM} {P : Option Value → MM → Prop} {s0 : Int32} {M1 : MM} {M2 : MM} {la lb pa pb rl : Nat} (L : Lay M la lb pa pb rl)
    (qM1 : M1 = wi M 130 6 1)
    (qM2 : M2 = wi M 130 6 4)
    (k1 : s0 < 97 → ((mi M 130 4) - (mi M 130 5)) ≤ 8 → P none M1)
    (k2 : s0 < 97 → ¬ (((mi M 130 4) - (mi M 130 5)) ≤ 8) → P none M2)
    (k3 : ¬ (s0 < 97) → K0 g YX12_nextToken YX12_signAt d 130 [.ref 130, .int (mi M 130 4)] [(0, .ref 130)] [] M P) :
    E0 g YX12_nextToken d 117 [(0, .ref 130)] [.int s0] M P := by
  have f1 : ob M 130 12 := L.s rfl (by decide)
  subst qM1 qM2
  refine x_bipush (v := 97) dX12_nextToken_117 (by decide) ?_
  refine x_ic_lt 188 dX12_nextToken_119 (by decide) (fun c1 => ?_) (fun c1 => ?_)
  · refine x_aload_n dX12_nextToken_188 0 rfl ?_
    refine x_aload_n dX12_nextToken_189 0 rfl ?_
    refine x_getI fdX12_150 rfl dX12_nextToken_190 f1.1 f1.2 ?_
    refine x_aload_n dX12_nextToken_193 0 rfl ?_
    refine x_getI fdX12_153 rfl dX12_nextToken_194 f1.1 f1.2 ?_
    refine x_isub dX12_nextToken_197 ?_
    refine x_bipush (v := 8) dX12_nextToken_198 (by decide) ?_
    refine x_ic_le 207 dX12_nextToken_200 (by decide) (fun c2 => ?_) (fun c2 => ?_)
    · refine x_iconst (v := 1) dX12_nextToken_207 (by decide) ?_
      refine x_putI fdX12_163 rfl (Or.inl rfl) dX12_nextToken_208 f1.1 f1.2 rfl rfl ?_
      exact x_vret rfl dX12_nextToken_211 (Nat.le_refl _) (Nat.le_refl _) (k1 c1 c2)
    · refine x_iconst (v := 4) dX12_nextToken_203 (by decide) ?_
      refine x_goto 208 dX12_nextToken_204 (by decide) ?_
      refine x_putI fdX12_163 rfl (Or.inl rfl) dX12_nextToken_208 f1.1 f1.2 rfl rfl ?_
      exact x_vret rfl dX12_nextToken_211 (Nat.le_refl _) (Nat.le_refl _) (k2 c1 c2)
  · refine x_aload_n dX12_nextToken_122 0 rfl ?_
    refine x_aload_n dX12_nextToken_123 0 rfl ?_
    refine x_getI fdX12_150 rfl dX12_nextToken_124 f1.1 f1.2 ?_
    refine EX.sub [0] (K0.v (As := [.int (mi M 130 4)]) (st := []) cvX12_166 dX12_nextToken_127 rfl rfl f1 rfl (Nat.le_of_ble_eq_true rfl) (k3 c1)) rfl
set_option maxRecDepth 8000 in
theorem qX12_nextToken_130 {g : GG} {d : Nat} {M : MM} {P : Option Value → MM → Prop} {s0 : Int32} {M1 : MM} {M2 : MM} {M3 : MM} {la lb pa pb rl : Nat} (L : Lay M la lb pa pb rl)
    (qM1 : M1 = wi M 130 6 1)
    (qM2 : M2 = wi M 130 6 4)
    (qM3 : M3 = wi M 130 4 ((mi M 130 4) + 1))
    (k1 : 122 < s0 → ((mi M 130 4) - (mi M 130 5)) ≤ 8 → P none M1)
    (k2 : 122 < s0 → ¬ (((mi M 130 4) - (mi M 130 5)) ≤ 8) → P none M2)
    (k3 : ¬ (122 < s0) → 8 ≤ ((mi M 130 4) - (mi M 130 5)) → E0 g YX12_nextToken d 109 [(0, .ref 130)] [] M3 P)
    (k4 : ¬ (122 < s0) → ¬ (8 ≤ ((mi M 130 4) - (mi M 130 5))) → K0 g YX12_nextToken YX12_signAt d 166 [.ref 130, .int (mi M 130 4)] [(0, .ref 130)] [.long ((mj M 130 7) * (27)), .ref 130] M P) :
    E0 g YX12_nextToken d 130 [(0, .ref 130)] [.int s0] M P := by
  have f1 : ob M 130 12 := L.s rfl (by decide)
  subst qM1 qM2 qM3
  refine x_bipush (v := 122) dX12_nextToken_130 (by decide) ?_
  refine x_ic_gt 188 dX12_nextToken_132 (by decide) (fun c1 => ?_) (fun c1 => ?_)
  · refine x_aload_n dX12_nextToken_188 0 rfl ?_
    refine x_aload_n dX12_nextToken_189 0 rfl ?_
    refine x_getI fdX12_150 rfl dX12_nextToken_190 f1.1 f1.2 ?_
    refine x_aload_n dX12_nextToken_193 0 rfl ?_
    refine x_getI fdX12_153 rfl dX12_nextToken_194 f1.1 f1.2 ?_
    refine x_isub dX12_nextToken_197 ?_
    refine x_bipush (v := 8) dX12_nextToken_198 (by decide) ?_
    refine x_ic_le 207 dX12_nextToken_200 (by decide) (fun c2 => ?_) (fun c2 => ?_)
    · refine x_iconst (v := 1) dX12_nextToken_207 (by decide) ?_
      refine x_putI fdX12_163 rfl (Or.inl rfl) dX12_nextToken_208 f1.1 f1.2 rfl rfl ?_
      exact x_vret rfl dX12_nextToken_211 (Nat.le_refl _) (Nat.le_refl _) (k1 c1 c2)
    · refine x_iconst (v := 4) dX12_nextToken_203 (by decide) ?_
      refine x_goto 208 dX12_nextToken_204 (by decide) ?_
      refine x_putI fdX12_163 rfl (Or.inl rfl) dX12_nextToken_208 f1.1 f1.2 rfl rfl ?_
      exact x_vret rfl dX12_nextToken_211 (Nat.le_refl _) (Nat.le_refl _) (k2 c1 c2)
  · refine x_aload_n dX12_nextToken_135 0 rfl ?_
    refine x_getI fdX12_150 rfl dX12_nextToken_136 f1.1 f1.2 ?_
    refine x_aload_n dX12_nextToken_139 0 rfl ?_
    refine x_getI fdX12_153 rfl dX12_nextToken_140 f1.1 f1.2 ?_
    refine x_isub dX12_nextToken_143 ?_
    refine x_bipush (v := 8) dX12_nextToken_144 (by decide) ?_
    refine x_ic_ge 175 dX12_nextToken_146 (by decide) (fun c2 => ?_) (fun c2 => ?_)
    · refine x_aload_n dX12_nextToken_175 0 rfl ?_
      refine x_dup dX12_nextToken_176 rfl ?_
      refine x_getI fdX12_150 rfl dX12_nextToken_177 f1.1 f1.2 ?_
      refine x_iconst (v := 1) dX12_nextToken_180 (by decide) ?_
      refine x_iadd dX12_nextToken_181 ?_
      refine x_putI fdX12_150 rfl (Or.inl rfl) dX12_nextToken_182 f1.1 f1.2 rfl rfl ?_
      refine x_goto 109 dX12_nextToken_185 (by decide) ?_
      exact EX.sub [0] (k3 c1 c2) rfl
    · refine x_aload_n dX12_nextToken_149 0 rfl ?_
      refine x_aload_n dX12_nextToken_150 0 rfl ?_
      refine x_getJ fdX12_156 rfl dX12_nextToken_151 f1.1 f1.2 ?_
      refine x_ldc2 dX12_nextToken_154 kcX12_170 ?_
      refine x_lmul dX12_nextToken_157 ?_
      refine x_aload_n dX12_nextToken_158 0 rfl ?_
      refine x_aload_n dX12_nextToken_159 0 rfl ?_
      refine x_getI fdX12_150 rfl dX12_nextToken_160 f1.1 f1.2 ?_
      refine EX.sub [0] (K0.v (As := [.int (mi M 130 4)]) (st := [.long ((mj M 130 7) * (27)), .ref 130]) cvX12_166 dX12_nextToken_163 rfl rfl f1 rfl (Nat.le_of_ble_eq_true rfl) (k4 c1 c2)) rfl
set_option maxRecDepth 8000 in
theorem qX12_nextToken_166 {g : GG} {d : Nat} {M : MM} {P : Option Value → MM → Prop} {s0 : Nat} {s1 : Int64} {s2 : Int32} {M1 : MM} {M2 : MM} {la lb pa pb rl : Nat} (L : Lay M la lb pa pb rl)
    (qM1 : M1 = wj M s0 7 ((s1 + (s2 : Int32).toInt64) - (96)))
    (qM2 : M2 = wi M1 130 4 ((mi M 130 4) + 1))
    (h1 : ob M s0 12)
    (k1 : E0 g YX12_nextToken d 109 [(0, .ref 130)] [] M2 P) :
    E0 g YX12_nextToken d 166 [(0, .ref 130)] [.int s2, .long s1, .ref s0] M P := by
  have f1 : ob M 130 12 := L.s rfl (by decide)
  subst qM1 qM2
  refine x_i2l dX12_nextToken_166 ?_
  refine x_ladd dX12_nextToken_167 ?_
  refine x_ldc2 dX12_nextToken_168 kcX12_172 ?_
  refine x_lsub dX12_nextToken_171 ?_
  refine x_putJ fdX12_156 rfl (Or.inl rfl) dX12_nextToken_172 h1.1 h1.2 ?_
  refine x_aload_n dX12_nextToken_175 0 rfl ?_
  refine x_dup dX12_nextToken_176 rfl ?_
  refine x_getI fdX12_150 rfl dX12_nextToken_177 f1.1 f1.2 ?_
  refine x_iconst (v := 1) dX12_nextToken_180 (by decide) ?_
  refine x_iadd dX12_nextToken_181 ?_
  refine x_putI fdX12_150 rfl (Or.inl rfl) dX12_nextToken_182 f1.1 f1.2 rfl rfl ?_
  refine x_goto 109 dX12_nextToken_185 (by decide) ?_
  exact EX.sub [0] k1 rfl
set_option maxRecDepth 8000 in
theorem qX12_nextToken_212 {g : GG} {d : Nat} {M : MM} {P : Option Value → MM → Prop} {i1 : Int32}
    (k1 : i1 < 48 → E0 g YX12_nextToken d 322 [(0, .ref 130), (1, .int i1)] [] M P)
    (k2 : ¬ (i1 < 48) → 57 < i1 → E0 g YX12_nextToken d 322 [(0, .ref 130), (1, .int i1)] [] M P)
    (k3 : ¬ (i1 < 48) → ¬ (57 < i1) → E0 g YX12_nextToken d 224 [(0, .ref 130)] [] M P) :
    E0 g YX12_nextToken d 212 [(0, .ref 130), (1, .int i1)] [] M P := by
  refine x_iload_n dX12_nextToken_212 1 rfl ?_
  refine x_bipush (v := 48) dX12_nextToken_213 (by decide) ?_
  refine x_ic_lt 322 dX12_nextToken_215 (by decide) (fun c1 => ?_) (fun c1 => ?_)
  · exact EX.sub [0, 1] (k1 c1) rfl
  · refine x_iload_n dX12_nextToken_218 1 rfl ?_
    refine x_bipush (v := 57) dX12_nextToken_219 (by decide) ?_
    refine x_ic_gt 322 dX12_nextToken_221 (by decide) (fun c2 => ?_) (fun c2 => ?_)
    · exact EX.sub [0, 1] (k2 c1 c2) rfl
    · exact EX.sub [0] (k3 c1 c2) rfl
set_option maxRecDepth 8000 in
theorem qX12_nextToken_224 {g : GG} {d : Nat} {M : MM} {P : Option Value → MM → Prop}  {la lb pa pb rl : Nat} (L : Lay M la lb pa pb rl)
    (k1 : K0 g YX12_nextToken YX12_signAt d 232 [.ref 130, .int (mi M 130 4)] [(0, .ref 130)] [] M P) :
    E0 g YX12_nextToken d 224 [(0, .ref 130)] [] M P := by
  have f1 : ob M 130 12 := L.s rfl (by decide)
  refine x_aload_n dX12_nextToken_224 0 rfl ?_
  refine x_aload_n dX12_nextToken_225 0 rfl ?_
  refine x_getI fdX12_150 rfl dX12_nextToken_226 f1.1 f1.2 ?_
  refine EX.sub [0] (K0.v (As := [.int (mi M 130 4)]) (st := []) cvX12_166 dX12_nextToken_229 rfl rfl f1 rfl (Nat.le_of_ble_eq_true rfl) (k1)) rfl
set_option maxRecDepth 8000 in
theorem qX12_nextToken_232 {g : GG} {d : Nat} {M : MM} {P : Option Value → MM → Prop} {s0 : Int32} {M1 : MM} {M2 : MM} {la lb pa pb rl : Nat} (L : Lay M la lb pa pb rl)
    (qM1 : M1 = wi M 130 6 2)
    (qM2 : M2 = wi M 130 6 4)
    (k1 : s0 < 48 → ((mi M 130 4) - (mi M 130 5)) ≤ 4 → P none M1)
    (k2 : s0 < 48 → ¬ (((mi M 130 4) - (mi M 130 5)) ≤ 4) → P none M2)
    (k3 : ¬ (s0 < 48) → K0 g YX12_nextToken YX12_signAt d 245 [.ref 130, .int (mi M 130 4)] [(0, .ref 130)] [] M P) :
    E0 g YX12_nextToken d 232 [(0, .ref 130)] [.int s0] M P := by
  have f1 : ob M 130 12 := L.s rfl (by decide)
  subst qM1 qM2
  refine x_bipush (v := 48) dX12_nextToken_232 (by decide) ?_
  refine x_ic_lt 299 dX12_nextToken_234 (by decide) (fun c1 => ?_) (fun c1 => ?_)
  · refine x_aload_n dX12_nextToken_299 0 rfl ?_
    refine x_aload_n dX12_nextToken_300 0 rfl ?_
    refine x_getI fdX12_150 rfl dX12_nextToken_301 f1.1 f1.2 ?_
    refine x_aload_n dX12_nextToken_304 0 rfl ?_
    refine x_getI fdX12_153 rfl dX12_nextToken_305 f1.1 f1.2 ?_
    refine x_isub dX12_nextToken_308 ?_
    refine x_iconst (v := 4) dX12_nextToken_309 (by decide) ?_
    refine x_ic_le 317 dX12_nextToken_310 (by decide) (fun c2 => ?_) (fun c2 => ?_)
    · refine x_iconst (v := 2) dX12_nextToken_317 (by decide) ?_
      refine x_putI fdX12_163 rfl (Or.inl rfl) dX12_nextToken_318 f1.1 f1.2 rfl rfl ?_
      exact x_vret rfl dX12_nextToken_321 (Nat.le_refl _) (Nat.le_refl _) (k1 c1 c2)
    · refine x_iconst (v := 4) dX12_nextToken_313 (by decide) ?_
      refine x_goto 318 dX12_nextToken_314 (by decide) ?_
      refine x_putI fdX12_163 rfl (Or.inl rfl) dX12_nextToken_318 f1.1 f1.2 rfl rfl ?_
      exact x_vret rfl dX12_nextToken_321 (Nat.le_refl _) (Nat.le_refl _) (k2 c1 c2)
  · refine x_aload_n dX12_nextToken_237 0 rfl ?_
    refine x_aload_n dX12_nextToken_238 0 rfl ?_
    refine x_getI fdX12_150 rfl dX12_nextToken_239 f1.1 f1.2 ?_
    refine EX.sub [0] (K0.v (As := [.int (mi M 130 4)]) (st := []) cvX12_166 dX12_nextToken_242 rfl rfl f1 rfl (Nat.le_of_ble_eq_true rfl) (k3 c1)) rfl
set_option maxRecDepth 8000 in
theorem qX12_nextToken_245 {g : GG} {d : Nat} {M : MM} {P : Option Value → MM → Prop} {s0 : Int32} {M1 : MM} {M2 : MM} {M3 : MM} {la lb pa pb rl : Nat} (L : Lay M la lb pa pb rl)
    (qM1 : M1 = wi M 130 6 2)
    (qM2 : M2 = wi M 130 6 4)
    (qM3 : M3 = wi M 130 4 ((mi M 130 4) + 1))
    (k1 : 57 < s0 → ((mi M 130 4) - (mi M 130 5)) ≤ 4 → P none M1)
    (k2 : 57 < s0 → ¬ (((mi M 130 4) - (mi M 130 5)) ≤ 4) → P none M2)
    (k3 : ¬ (57 < s0) → 4 ≤ ((mi M 130 4) - (mi M 130 5)) → E0 g YX12_nextToken d 224 [(0, .ref 130)] [] M3 P)
    (k4 : ¬ (57 < s0) → ¬ (4 ≤ ((mi M 130 4) - (mi M 130 5))) → K0 g YX12_nextToken YX12_signAt d 279 [.ref 130, .int (mi M 130 4)] [(0, .ref 130)] [.int ((mi M 130 8) * 10), .ref 130] M P) :
    E0 g YX12_nextToken d 245 [(0, .ref 130)] [.int s0] M P := by
  have f1 : ob M 130 12 := L.s rfl (by decide)
  subst qM1 qM2 qM3
  refine x_bipush (v := 57) dX12_nextToken_245 (by decide) ?_
  refine x_ic_gt 299 dX12_nextToken_247 (by decide) (fun c1 => ?_) (fun c1 => ?_)
  · refine x_aload_n dX12_nextToken_299 0 rfl ?_
    refine x_aload_n dX12_nextToken_300 0 rfl ?_
    refine x_getI fdX12_150 rfl dX12_nextToken_301 f1.1 f1.2 ?_
    refine x_aload_n dX12_nextToken_304 0 rfl ?_
    refine x_getI fdX12_153 rfl dX12_nextToken_305 f1.1 f1.2 ?_
    refine x_isub dX12_nextToken_308 ?_
    refine x_iconst (v := 4) dX12_nextToken_309 (by decide) ?_
    refine x_ic_le 317 dX12_nextToken_310 (by decide) (fun c2 => ?_) (fun c2 => ?_)
    · refine x_iconst (v := 2) dX12_nextToken_317 (by decide) ?_
      refine x_putI fdX12_163 rfl (Or.inl rfl) dX12_nextToken_318 f1.1 f1.2 rfl rfl ?_
      exact x_vret rfl dX12_nextToken_321 (Nat.le_refl _) (Nat.le_refl _) (k1 c1 c2)
    · refine x_iconst (v := 4) dX12_nextToken_313 (by decide) ?_
      refine x_goto 318 dX12_nextToken_314 (by decide) ?_
      refine x_putI fdX12_163 rfl (Or.inl rfl) dX12_nextToken_318 f1.1 f1.2 rfl rfl ?_
      exact x_vret rfl dX12_nextToken_321 (Nat.le_refl _) (Nat.le_refl _) (k2 c1 c2)
  · refine x_aload_n dX12_nextToken_250 0 rfl ?_
    refine x_getI fdX12_150 rfl dX12_nextToken_251 f1.1 f1.2 ?_
    refine x_aload_n dX12_nextToken_254 0 rfl ?_
    refine x_getI fdX12_153 rfl dX12_nextToken_255 f1.1 f1.2 ?_
    refine x_isub dX12_nextToken_258 ?_
    refine x_iconst (v := 4) dX12_nextToken_259 (by decide) ?_
    refine x_ic_ge 286 dX12_nextToken_260 (by decide) (fun c2 => ?_) (fun c2 => ?_)
    · refine x_aload_n dX12_nextToken_286 0 rfl ?_
      refine x_dup dX12_nextToken_287 rfl ?_
      refine x_getI fdX12_150 rfl dX12_nextToken_288 f1.1 f1.2 ?_
      refine x_iconst (v := 1) dX12_nextToken_291 (by decide) ?_
      refine x_iadd dX12_nextToken_292 ?_
      refine x_putI fdX12_150 rfl (Or.inl rfl) dX12_nextToken_293 f1.1 f1.2 rfl rfl ?_
      refine x_goto 224 dX12_nextToken_296 (by decide) ?_
      exact EX.sub [0] (k3 c1 c2) rfl
    · refine x_aload_n dX12_nextToken_263 0 rfl ?_
      refine x_aload_n dX12_nextToken_264 0 rfl ?_
      refine x_getI fdX12_160 rfl dX12_nextToken_265 f1.1 f1.2 ?_
      refine x_bipush (v := 10) dX12_nextToken_268 (by decide) ?_
      refine x_imul dX12_nextToken_270 ?_
      refine x_aload_n dX12_nextToken_271 0 rfl ?_
      refine x_aload_n dX12_nextToken_272 0 rfl ?_
      refine x_getI fdX12_150 rfl dX12_nextToken_273 f1.1 f1.2 ?_
      refine EX.sub [0] (K0.v (As := [.int (mi M 130 4)]) (st := [.int ((mi M 130 8) * 10), .ref 130]) cvX12_166 dX12_nextToken_276 rfl rfl f1 rfl (Nat.le_of_ble_eq_true rfl) (k4 c1 c2)) rfl
set_option maxRecDepth 8000 in
theorem qX12_nextToken_279 {g : GG} {d : Nat} {M : MM} {P : Option Value → MM → Prop} {s0 : Nat} {s1 : Int32} {s2 : Int32} {M1 : MM} {M2 : MM} {la lb pa pb rl : Nat} (L : Lay M la lb pa pb rl)
    (qM1 : M1 = wi M s0 8 ((s1 + s2) - 48))
    (qM2 : M2 = wi M1 130 4 ((mi M1 130 4) + 1))
    (h1 : ob M s0 12)
    (k1 : E0 g YX12_nextToken d 224 [(0, .ref 130)] [] M2 P) :
    E0 g YX12_nextToken d 279 [(0, .ref 130)] [.int s2, .int s1, .ref s0] M P := by
  have f1 : ob M 130 12 := L.s rfl (by decide)
  subst qM1 qM2
  refine x_iadd dX12_nextToken_279 ?_
  refine x_bipush (v := 48) dX12_nextToken_280 (by decide) ?_
  refine x_isub dX12_nextToken_282 ?_
  refine x_putI fdX12_160 rfl (Or.inl rfl) dX12_nextToken_283 h1.1 h1.2 rfl rfl ?_
  refine x_aload_n dX12_nextToken_286 0 rfl ?_
  refine x_dup dX12_nextToken_287 rfl ?_
  refine x_getI fdX12_150 rfl dX12_nextToken_288 f1.1 f1.2 ?_
  refine x_iconst (v := 1) dX12_nextToken_291 (by decide) ?_
  refine x_iadd dX12_nextToken_292 ?_
  refine x_putI fdX12_150 rfl (Or.inl rfl) dX12_nextToken_293 f1.1 f1.2 rfl rfl ?_
  refine x_goto 224 dX12_nextToken_296 (by decide) ?_
  exact EX.sub [0] k1 rfl
set_option maxRecDepth 8000 in
theorem qX12_nextToken_322 {g : GG} {d : Nat} {M : MM} {P : Option Value → MM → Prop} {i1 : Int32} {M1 : MM} {M2 : MM} {M3 : MM} {M4 : MM} {M5 : MM} {la lb pa pb rl : Nat} (L : Lay M la lb pa pb rl)
    (qM1 : M1 = wi M 130 4 ((mi M 130 4) + 1))
    (qM2 : M2 = wi M1 130 6 4)
    (qM3 : M3 = wi M1 130 6 4)
    (qM4 : M4 = wi M1 130 6 4)
    (qM5 : M5 = wi M1 130 6 4)
    (k1 : i1 < 40 → i1 = 45 → E0 g YX12_nextToken d 363 [] [.ref 130] M1 P)
    (k2 : i1 < 40 → ¬ (i1 = 45) → i1 < 59 → P none M2)
    (k3 : i1 < 40 → ¬ (i1 = 45) → ¬ (i1 < 59) → 61 < i1 → P none M3)
    (k4 : i1 < 40 → ¬ (i1 = 45) → ¬ (i1 < 59) → ¬ (61 < i1) → E0 g YX12_nextToken d 363 [] [.ref 130] M1 P)
    (k5 : ¬ (i1 < 40) → i1 ≤ 43 → E0 g YX12_nextToken d 363 [] [.ref 130] M1 P)
    (k6 : ¬ (i1 < 40) → ¬ (i1 ≤ 43) → i1 = 45 → E0 g YX12_nextToken d 363 [] [.ref 130] M1 P)
    (k7 : ¬ (i1 < 40) → ¬ (i1 ≤ 43) → ¬ (i1 = 45) → i1 < 59 → P none M4)
    (k8 : ¬ (i1 < 40) → ¬ (i1 ≤ 43) → ¬ (i1 = 45) → ¬ (i1 < 59) → 61 < i1 → P none M5)
    (k9 : ¬ (i1 < 40) → ¬ (i1 ≤ 43) → ¬ (i1 = 45) → ¬ (i1 < 59) → ¬ (61 < i1) → E0 g YX12_nextToken d 363 [] [.ref 130] M1 P) :
    E0 g YX12_nextToken d 322 [(0, .ref 130), (1, .int i1)] [] M P := by
  have f1 : ob M 130 12 := L.s rfl (by decide)
  subst qM1 qM2 qM3 qM4 qM5
  refine x_aload_n dX12_nextToken_322 0 rfl ?_
  refine x_dup dX12_nextToken_323 rfl ?_
  refine x_getI fdX12_150 rfl dX12_nextToken_324 f1.1 f1.2 ?_
  refine x_iconst (v := 1) dX12_nextToken_327 (by decide) ?_
  refine x_iadd dX12_nextToken_328 ?_
  refine x_putI fdX12_150 rfl (Or.inl rfl) dX12_nextToken_329 f1.1 f1.2 rfl rfl ?_
  refine x_aload_n dX12_nextToken_332 0 rfl ?_
  refine x_iload_n dX12_nextToken_333 1 rfl ?_
  refine x_bipush (v := 40) dX12_nextToken_334 (by decide) ?_
  refine x_ic_lt 345 dX12_nextToken_336 (by decide) (fun c1 => ?_) (fun c1 => ?_)
  · refine x_iload_n dX12_nextToken_345 1 rfl ?_
    refine x_bipush (v := 45) dX12_nextToken_346 (by decide) ?_
    refine x_ic_eq 363 dX12_nextToken_348 (by decide) (fun c2 => ?_) (fun c2 => ?_)
    · exact EX.sub [] (k1 c1 c2) rfl
    · refine x_iload_n dX12_nextToken_351 1 rfl ?_
      refine x_bipush (v := 59) dX12_nextToken_352 (by decide) ?_
      refine x_ic_lt 367 dX12_nextToken_354 (by decide) (fun c3 => ?_) (fun c3 => ?_)
      · refine x_iconst (v := 4) dX12_nextToken_367 (by decide) ?_
        refine x_putI fdX12_163 rfl (Or.inl rfl) dX12_nextToken_368 f1.1 f1.2 rfl rfl ?_
        exact x_vret rfl dX12_nextToken_371 (Nat.le_refl _) (Nat.le_refl _) (k2 c1 c2 c3)
      · refine x_iload_n dX12_nextToken_357 1 rfl ?_
        refine x_bipush (v := 61) dX12_nextToken_358 (by decide) ?_
        refine x_ic_gt 367 dX12_nextToken_360 (by decide) (fun c4 => ?_) (fun c4 => ?_)
        · refine x_iconst (v := 4) dX12_nextToken_367 (by decide) ?_
          refine x_putI fdX12_163 rfl (Or.inl rfl) dX12_nextToken_368 f1.1 f1.2 rfl rfl ?_
          exact x_vret rfl dX12_nextToken_371 (Nat.le_refl _) (Nat.le_refl _) (k3 c1 c2 c3 c4)
        · exact EX.sub [] (k4 c1 c2 c3 c4) rfl
  · refine x_iload_n dX12_nextToken_339 1 rfl ?_
    refine x_bipush (v := 43) dX12_nextToken_340 (by decide) ?_
    refine x_ic_le 363 dX12_nextToken_342 (by decide) (fun c2 => ?_) (fun c2 => ?_)
    · exact EX.sub [] (k5 c1 c2) rfl
    · refine x_iload_n dX12_nextToken_345 1 rfl ?_
      refine x_bipush (v := 45) dX12_nextToken_346 (by decide) ?_
      refine x_ic_eq 363 dX12_nextToken_348 (by decide) (fun c3 => ?_) (fun c3 => ?_)
      · exact EX.sub [] (k6 c1 c2 c3) rfl
      · refine x_iload_n dX12_nextToken_351 1 rfl ?_
        refine x_bipush (v := 59) dX12_nextToken_352 (by decide) ?_
        refine x_ic_lt 367 dX12_nextToken_354 (by decide) (fun c4 => ?_) (fun c4 => ?_)
        · refine x_iconst (v := 4) dX12_nextToken_367 (by decide) ?_
          refine x_putI fdX12_163 rfl (Or.inl rfl) dX12_nextToken_368 f1.1 f1.2 rfl rfl ?_
          exact x_vret rfl dX12_nextToken_371 (Nat.le_refl _) (Nat.le_refl _) (k7 c1 c2 c3 c4)
        · refine x_iload_n dX12_nextToken_357 1 rfl ?_
          refine x_bipush (v := 61) dX12_nextToken_358 (by decide) ?_
          refine x_ic_gt 367 dX12_nextToken_360 (by decide) (fun c5 => ?_) (fun c5 => ?_)
          · refine x_iconst (v := 4) dX12_nextToken_367 (by decide) ?_
            refine x_putI fdX12_163 rfl (Or.inl rfl) dX12_nextToken_368 f1.1 f1.2 rfl rfl ?_
            exact x_vret rfl dX12_nextToken_371 (Nat.le_refl _) (Nat.le_refl _) (k8 c1 c2 c3 c4 c5)
          · exact EX.sub [] (k9 c1 c2 c3 c4 c5) rfl
set_option maxRecDepth 8000 in
theorem qX12_nextToken_363 {g : GG} {d : Nat} {M : MM} {P : Option Value → MM → Prop} {s0 : Nat} {M1 : MM}
    (qM1 : M1 = wi M s0 6 3)
    (h1 : ob M s0 12)
    (k1 : P none M1) :
    E0 g YX12_nextToken d 363 [] [.ref s0] M P := by
  subst qM1
  refine x_iconst (v := 3) dX12_nextToken_363 (by decide) ?_
  refine x_goto 368 dX12_nextToken_364 (by decide) ?_
  refine x_putI fdX12_163 rfl (Or.inl rfl) dX12_nextToken_368 h1.1 h1.2 rfl rfl ?_
  exact x_vret rfl dX12_nextToken_371 (Nat.le_refl _) (Nat.le_refl _) (k1)
set_option maxRecDepth 8000 in
theorem qX12_isWord_0 {g : GG} {d : Nat} {M : MM} {P : Option Value → MM → Prop} {j1 : Int64} {la lb pa pb rl : Nat} (L : Lay M la lb pa pb rl)
    (k1 : ¬ (mi M 130 6) = 1 → P (some (.int 0)) M)
    (k2 : (mi M 130 6) = 1 → ¬ (lg_cmp (mj M 130 7) j1) = 0 → P (some (.int 0)) M)
    (k3 : (mi M 130 6) = 1 → (lg_cmp (mj M 130 7) j1) = 0 → P (some (.int 1)) M) :
    E0 g YX12_isWord d 0 [(0, .ref 130), (1, .long j1)] [] M P := by
  have f1 : ob M 130 12 := L.s rfl (by decide)
  refine x_aload_n dX12_isWord_0 0 rfl ?_
  refine x_getI fdX12_163 rfl dX12_isWord_1 f1.1 f1.2 ?_
  refine x_iconst (v := 1) dX12_isWord_4 (by decide) ?_
  refine x_ic_ne 21 dX12_isWord_5 (by decide) (fun c1 => ?_) (fun c1 => ?_)
  · refine x_iconst (v := 0) dX12_isWord_21 (by decide) ?_
    exact x_zret rfl dX12_isWord_22 rfl (Nat.le_refl _) (Nat.le_refl _) (k1 c1)
  · refine x_aload_n dX12_isWord_8 0 rfl ?_
    refine x_getJ fdX12_156 rfl dX12_isWord_9 f1.1 f1.2 ?_
    refine x_lload_n dX12_isWord_12 1 rfl ?_
    refine x_lcmp dX12_isWord_13 ?_
    refine x_if_ne 21 dX12_isWord_14 (by decide) (fun c2 => ?_) (fun c2 => ?_)
    · refine x_iconst (v := 0) dX12_isWord_21 (by decide) ?_
      exact x_zret rfl dX12_isWord_22 rfl (Nat.le_refl _) (Nat.le_refl _) (k2 c1 c2)
    · refine x_iconst (v := 1) dX12_isWord_17 (by decide) ?_
      refine x_goto 22 dX12_isWord_18 (by decide) ?_
      exact x_zret rfl dX12_isWord_22 rfl (Nat.le_refl _) (Nat.le_refl _) (k3 c1 c2)
set_option maxRecDepth 8000 in
theorem qX12_isSign_0 {g : GG} {d : Nat} {M : MM} {P : Option Value → MM → Prop} {i1 : Int32} {la lb pa pb rl : Nat} (L : Lay M la lb pa pb rl)
    (h1 : (mi M 130 6) = 3 → vp_in (mi M 130 5) 1000)
    (k1 : ¬ (mi M 130 6) = 3 → P (some (.int 0)) M)
    (k2 : (mi M 130 6) = 3 → ¬ (mi M 131 ((mi M 130 5) : Int32).toNatClampNeg) = i1 → P (some (.int 0)) M)
    (k3 : (mi M 130 6) = 3 → (mi M 131 ((mi M 130 5) : Int32).toNatClampNeg) = i1 → P (some (.int 1)) M) :
    E0 g YX12_isSign d 0 [(0, .ref 130), (1, .int i1)] [] M P := by
  have f1 : ob M 130 12 := L.s rfl (by decide)
  have f2 : mr M 130 2 = some 131 := L.r 126 rfl
  have f3 : ar M 131 1 1000 := L.s rfl (by decide)
  refine x_aload_n dX12_isSign_0 0 rfl ?_
  refine x_getI fdX12_163 rfl dX12_isSign_1 f1.1 f1.2 ?_
  refine x_iconst (v := 3) dX12_isSign_4 (by decide) ?_
  refine x_ic_ne 25 dX12_isSign_5 (by decide) (fun c1 => ?_) (fun c1 => ?_)
  · refine x_iconst (v := 0) dX12_isSign_25 (by decide) ?_
    exact x_zret rfl dX12_isSign_26 rfl (Nat.le_refl _) (Nat.le_refl _) (k1 c1)
  · refine x_aload_n dX12_isSign_8 0 rfl ?_
    refine x_getR fdX12_7 rfl dX12_isSign_9 f1.1 f1.2 f2 ?_
    refine x_aload_n dX12_isSign_12 0 rfl ?_
    refine x_getI fdX12_153 rfl dX12_isSign_13 f1.1 f1.2 ?_
    refine x_iald dX12_isSign_16 f3.1 f3.2 (h1 c1) ?_
    refine x_iload_n dX12_isSign_17 1 rfl ?_
    refine x_ic_ne 25 dX12_isSign_18 (by decide) (fun c2 => ?_) (fun c2 => ?_)
    · refine x_iconst (v := 0) dX12_isSign_25 (by decide) ?_
      exact x_zret rfl dX12_isSign_26 rfl (Nat.le_refl _) (Nat.le_refl _) (k2 c1 c2)
    · refine x_iconst (v := 1) dX12_isSign_21 (by decide) ?_
      refine x_goto 26 dX12_isSign_22 (by decide) ?_
      exact x_zret rfl dX12_isSign_26 rfl (Nat.le_refl _) (Nat.le_refl _) (k3 c1 c2)
set_option maxRecDepth 8000 in
theorem qX12_fails_0 {g : GG} {d : Nat} {M : MM} {P : Option Value → MM → Prop} {i1 : Int32} {M1 : MM} {la lb pa pb rl : Nat} (L : Lay M la lb pa pb rl)
    (qM1 : M1 = wi M 130 9 (i1 + (16 * (mi M 130 5))))
    (k1 : P (some (.int 0)) M1) :
    E0 g YX12_fails d 0 [(0, .ref 130), (1, .int i1)] [] M P := by
  have f1 : ob M 130 12 := L.s rfl (by decide)
  subst qM1
  refine x_aload_n dX12_fails_0 0 rfl ?_
  refine x_iload_n dX12_fails_1 1 rfl ?_
  refine x_bipush (v := 16) dX12_fails_2 (by decide) ?_
  refine x_aload_n dX12_fails_4 0 rfl ?_
  refine x_getI fdX12_153 rfl dX12_fails_5 f1.1 f1.2 ?_
  refine x_imul dX12_fails_8 ?_
  refine x_iadd dX12_fails_9 ?_
  refine x_putI fdX12_174 rfl (Or.inl rfl) dX12_fails_10 f1.1 f1.2 rfl rfl ?_
  refine x_iconst (v := 0) dX12_fails_13 (by decide) ?_
  exact x_zret rfl dX12_fails_14 rfl (Nat.le_refl _) (Nat.le_refl _) (k1)
set_option maxRecDepth 8000 in
theorem qX12_puts_0 {g : GG} {d : Nat} {M : MM} {P : Option Value → MM → Prop} {i1 : Int32} {M1 : MM} {M2 : MM} {la lb pa pb rl : Nat} (L : Lay M la lb pa pb rl)
    (qM1 : M1 = wi M 141 ((mi M 130 20) : Int32).toNatClampNeg i1)
    (qM2 : M2 = wi M1 130 20 ((mi M1 130 20) + 1))
    (h1 : vp_in (mi M 130 20) 2000)
    (k1 : P none M2) :
    E0 g YX12_puts d 0 [(0, .ref 130), (1, .int i1)] [] M P := by
  have f1 : ob M 130 12 := L.s rfl (by decide)
  have f2 : mr M 130 19 = some 141 := L.r 136 rfl
  have f3 : ar M 141 1 2000 := L.s rfl (by decide)
  subst qM1 qM2
  refine x_aload_n dX12_puts_0 0 rfl ?_
  refine x_getR fdX12_41 rfl dX12_puts_1 f1.1 f1.2 f2 ?_
  refine x_aload_n dX12_puts_4 0 rfl ?_
  refine x_getI fdX12_177 rfl dX12_puts_5 f1.1 f1.2 ?_
  refine x_iload_n dX12_puts_8 1 rfl ?_
  refine x_iast dX12_puts_9 f3.1 f3.2 (h1) ?_
  refine x_aload_n dX12_puts_10 0 rfl ?_
  refine x_dup dX12_puts_11 rfl ?_
  refine x_getI fdX12_177 rfl dX12_puts_12 f1.1 f1.2 ?_
  refine x_iconst (v := 1) dX12_puts_15 (by decide) ?_
  refine x_iadd dX12_puts_16 ?_
  refine x_putI fdX12_177 rfl (Or.inl rfl) dX12_puts_17 f1.1 f1.2 rfl rfl ?_
  exact x_vret rfl dX12_puts_20 (Nat.le_refl _) (Nat.le_refl _) (k1)
set_option maxRecDepth 8000 in
theorem qX12_fact_0 {g : GG} {d : Nat} {M : MM} {P : Option Value → MM → Prop}  {la lb pa pb rl : Nat} (L : Lay M la lb pa pb rl)
    (k1 : (mi M 130 6) = 1 → ¬ (lg_cmp (mj M 130 7) (223456)) = 0 → ¬ (lg_cmp (mj M 130 7) (5173474771)) = 0 → ¬ (lg_cmp (mj M 130 7) (8740067)) = 0 → ¬ (lg_cmp (mj M 130 7) (692581)) = 0 → P (some (.int 0)) M)
    (k2 : (mi M 130 6) = 1 → ¬ (lg_cmp (mj M 130 7) (223456)) = 0 → ¬ (lg_cmp (mj M 130 7) (5173474771)) = 0 → ¬ (lg_cmp (mj M 130 7) (8740067)) = 0 → (lg_cmp (mj M 130 7) (692581)) = 0 → P (some (.int 4)) M)
    (k3 : (mi M 130 6) = 1 → ¬ (lg_cmp (mj M 130 7) (223456)) = 0 → ¬ (lg_cmp (mj M 130 7) (5173474771)) = 0 → (lg_cmp (mj M 130 7) (8740067)) = 0 → P (some (.int 3)) M)
    (k4 : (mi M 130 6) = 1 → ¬ (lg_cmp (mj M 130 7) (223456)) = 0 → (lg_cmp (mj M 130 7) (5173474771)) = 0 → P (some (.int 2)) M)
    (k5 : (mi M 130 6) = 1 → (lg_cmp (mj M 130 7) (223456)) = 0 → P (some (.int 1)) M)
    (k6 : ¬ ((mi M 130 6) = 1) → P (some (.int 0)) M) :
    E0 g YX12_fact d 0 [(0, .ref 130)] [] M P := by
  have f1 : ob M 130 12 := L.s rfl (by decide)
  refine x_aload_n dX12_fact_0 0 rfl ?_
  refine x_getI fdX12_163 rfl dX12_fact_1 f1.1 f1.2 ?_
  refine x_iconst (v := 1) dX12_fact_4 (by decide) ?_
  refine x_ic_eq 10 dX12_fact_5 (by decide) (fun c1 => ?_) (fun c1 => ?_)
  · refine x_aload_n dX12_fact_10 0 rfl ?_
    refine x_getJ fdX12_156 rfl dX12_fact_11 f1.1 f1.2 ?_
    refine x_ldc2 dX12_fact_14 kcX12_180 ?_
    refine x_lcmp dX12_fact_17 ?_
    refine x_if_ne 23 dX12_fact_18 (by decide) (fun c2 => ?_) (fun c2 => ?_)
    · refine x_aload_n dX12_fact_23 0 rfl ?_
      refine x_getJ fdX12_156 rfl dX12_fact_24 f1.1 f1.2 ?_
      refine x_ldc2 dX12_fact_27 kcX12_182 ?_
      refine x_lcmp dX12_fact_30 ?_
      refine x_if_ne 36 dX12_fact_31 (by decide) (fun c3 => ?_) (fun c3 => ?_)
      · refine x_aload_n dX12_fact_36 0 rfl ?_
        refine x_getJ fdX12_156 rfl dX12_fact_37 f1.1 f1.2 ?_
        refine x_ldc2 dX12_fact_40 kcX12_184 ?_
        refine x_lcmp dX12_fact_43 ?_
        refine x_if_ne 51 dX12_fact_44 (by decide) (fun c4 => ?_) (fun c4 => ?_)
        · refine x_aload_n dX12_fact_51 0 rfl ?_
          refine x_getJ fdX12_156 rfl dX12_fact_52 f1.1 f1.2 ?_
          refine x_ldc2 dX12_fact_55 kcX12_186 ?_
          refine x_lcmp dX12_fact_58 ?_
          refine x_if_ne 66 dX12_fact_59 (by decide) (fun c5 => ?_) (fun c5 => ?_)
          · refine x_iconst (v := 0) dX12_fact_66 (by decide) ?_
            exact x_iret rfl dX12_fact_67 (Nat.le_refl _) (Nat.le_refl _) (k1 c1 c2 c3 c4 c5)
          · refine x_iconst (v := 4) dX12_fact_62 (by decide) ?_
            refine x_goto 67 dX12_fact_63 (by decide) ?_
            exact x_iret rfl dX12_fact_67 (Nat.le_refl _) (Nat.le_refl _) (k2 c1 c2 c3 c4 c5)
        · refine x_iconst (v := 3) dX12_fact_47 (by decide) ?_
          refine x_goto 67 dX12_fact_48 (by decide) ?_
          exact x_iret rfl dX12_fact_67 (Nat.le_refl _) (Nat.le_refl _) (k3 c1 c2 c3 c4)
      · refine x_iconst (v := 2) dX12_fact_34 (by decide) ?_
        exact x_iret rfl dX12_fact_35 (Nat.le_refl _) (Nat.le_refl _) (k4 c1 c2 c3)
    · refine x_iconst (v := 1) dX12_fact_21 (by decide) ?_
      exact x_iret rfl dX12_fact_22 (Nat.le_refl _) (Nat.le_refl _) (k5 c1 c2)
  · refine x_iconst (v := 0) dX12_fact_8 (by decide) ?_
    exact x_iret rfl dX12_fact_9 (Nat.le_refl _) (Nat.le_refl _) (k6 c1)
set_option maxRecDepth 8000 in
theorem qX12_reads_0 {g : GG} {d : Nat} {M : MM} {P : Option Value → MM → Prop}  {M1 : MM} {la lb pa pb rl : Nat} (L : Lay M la lb pa pb rl)
    (qM1 : M1 = wi M 143 0 (vp_nar .boolean 0))
    (k1 : E0 g YX12_reads d 11 [(0, .ref 130), (1, .int 0), (2, .int 1)] [] M1 P) :
    E0 g YX12_reads d 0 [(0, .ref 130)] [] M P := by
  have f1 : ob M 130 12 := L.s rfl (by decide)
  have f2 : mr M 130 22 = some 143 := L.r 138 rfl
  have f3 : ar M 143 3 7 := L.s rfl (by decide)
  subst qM1
  refine x_iconst (v := 0) dX12_reads_0 (by decide) ?_
  refine x_istore_n (lv1 := [(1, .int 0), (0, .ref 130)]) dX12_reads_1 (by decide) rfl ?_
  refine x_iconst (v := 1) dX12_reads_2 (by decide) ?_
  refine x_istore_n (lv1 := [(2, .int 1), (1, .int 0), (0, .ref 130)]) dX12_reads_3 (by decide) rfl ?_
  refine x_aload_n dX12_reads_4 2 rfl ?_
  refine x_getR fdX12_47 rfl dX12_reads_5 f1.1 f1.2 f2 ?_
  refine x_iconst (v := 0) dX12_reads_8 (by decide) ?_
  refine x_iconst (v := 0) dX12_reads_9 (by decide) ?_
  refine x_zast dX12_reads_10 f3.1 f3.2 (by unfold vp_in; decide) ?_
  exact EX.sub [2, 1, 0] k1 rfl
set_option maxRecDepth 8000 in
theorem qX12_reads_11 {g : GG} {d : Nat} {M : MM} {P : Option Value → MM → Prop} {i1 : Int32} {i2 : Int32} {la lb pa pb rl : Nat} (L : Lay M la lb pa pb rl)
    (k1 : i2 = 0 → K0 g YX12_reads YX12_isSign d 185 [.ref 130, .int 43] [(0, .ref 130), (1, .int i1), (2, .int i2)] [] M P)
    (k2 : ¬ (i2 = 0) → K0 g YX12_reads YX12_fact d 19 [.ref 130] [(0, .ref 130), (1, .int i1), (2, .int i2)] [] M P) :
    E0 g YX12_reads d 11 [(0, .ref 130), (1, .int i1), (2, .int i2)] [] M P := by
  have f1 : ob M 130 12 := L.s rfl (by decide)
  refine x_iload_n dX12_reads_11 2 rfl ?_
  refine x_if_eq 179 dX12_reads_12 (by decide) (fun c1 => ?_) (fun c1 => ?_)
  · refine x_aload_n dX12_reads_179 0 rfl ?_
    refine x_bipush (v := 43) dX12_reads_180 (by decide) ?_
    refine EX.sub [0, 1, 2] (K0.v (As := [.int 43]) (st := []) cvX12_198 dX12_reads_182 rfl rfl f1 rfl (Nat.le_of_ble_eq_true rfl) (k1 c1)) rfl
  · refine x_aload_n dX12_reads_15 0 rfl ?_
    refine EX.sub [0, 1, 2] (K0.v (As := []) (st := []) cvX12_188 dX12_reads_16 rfl rfl f1 rfl (Nat.le_of_ble_eq_true rfl) (k2 c1)) rfl
set_option maxRecDepth 8000 in
theorem qX12_reads_19 {g : GG} {d : Nat} {M : MM} {P : Option Value → MM → Prop} {i1 : Int32} {i2 : Int32} {s0 : Int32} {la lb pa pb rl : Nat} (L : Lay M la lb pa pb rl)
    (k1 : K0 g YX12_reads YX12_isWord d 27 [.ref 130, .long (10631)] [(0, .ref 130), (1, .int i1), (2, .int i2), (3, .int s0)] [] M P) :
    E0 g YX12_reads d 19 [(0, .ref 130), (1, .int i1), (2, .int i2)] [.int s0] M P := by
  have f1 : ob M 130 12 := L.s rfl (by decide)
  refine x_istore_n (lv1 := [(3, .int s0), (0, .ref 130), (1, .int i1), (2, .int i2)]) dX12_reads_19 (by decide) rfl ?_
  refine x_aload_n dX12_reads_20 1 rfl ?_
  refine x_ldc2 dX12_reads_21 kcX12_192 ?_
  refine EX.sub [1, 2, 3, 0] (K0.v (As := [.long (10631)]) (st := []) cvX12_194 dX12_reads_24 rfl rfl f1 rfl (Nat.le_of_ble_eq_true rfl) (k1)) rfl
set_option maxRecDepth 8000 in
theorem qX12_reads_27 {g : GG} {d : Nat} {M : MM} {P : Option Value → MM → Prop} {i1 : Int32} {i2 : Int32} {i3 : Int32} {s0 : Int32} {la lb pa pb rl : Nat} (L : Lay M la lb pa pb rl)
    (k1 : K0 g YX12_reads YX12_isSign d 35 [.ref 130, .int 40] [(0, .ref 130), (1, .int i1), (2, .int i2), (3, .int i3), (4, .int s0)] [] M P) :
    E0 g YX12_reads d 27 [(0, .ref 130), (1, .int i1), (2, .int i2), (3, .int i3)] [.int s0] M P := by
  have f1 : ob M 130 12 := L.s rfl (by decide)
  refine x_istore (lv1 := [(4, .int s0), (0, .ref 130), (1, .int i1), (2, .int i2), (3, .int i3)]) dX12_reads_27 (by decide) rfl ?_
  refine x_aload_n dX12_reads_29 1 rfl ?_
  refine x_bipush (v := 40) dX12_reads_30 (by decide) ?_
  refine EX.sub [1, 2, 3, 4, 0] (K0.v (As := [.int 40]) (st := []) cvX12_198 dX12_reads_32 rfl rfl f1 rfl (Nat.le_of_ble_eq_true rfl) (k1)) rfl
set_option maxRecDepth 8000 in
theorem qX12_reads_35 {g : GG} {d : Nat} {M : MM} {P : Option Value → MM → Prop} {i1 : Int32} {i2 : Int32} {i3 : Int32} {i4 : Int32} {s0 : Int32} {la lb pa pb rl : Nat} (L : Lay M la lb pa pb rl)
    (k1 : ¬ i3 = 0 → E0 g YX12_reads d 65 [(0, .ref 130), (1, .int i1), (2, .int i2), (3, .int i3), (4, .int i4), (5, .int s0)] [] M P)
    (k2 : i3 = 0 → ¬ i4 = 0 → E0 g YX12_reads d 65 [(0, .ref 130), (1, .int i1), (2, .int i2), (3, .int i3), (4, .int i4), (5, .int s0)] [] M P)
    (k3 : i3 = 0 → i4 = 0 → ¬ s0 = 0 → E0 g YX12_reads d 65 [(0, .ref 130), (1, .int i1), (2, .int i2), (3, .int i3), (4, .int i4), (5, .int s0)] [] M P)
    (k4 : i3 = 0 → i4 = 0 → s0 = 0 → (mi M 130 6) = 2 → E0 g YX12_reads d 65 [(0, .ref 130), (1, .int i1), (2, .int i2), (3, .int i3), (4, .int i4), (5, .int s0)] [] M P)
    (k5 : i3 = 0 → i4 = 0 → s0 = 0 → ¬ ((mi M 130 6) = 2) → K0 g YX12_reads YX12_fails d 64 [.ref 130, .int 1] [] [] M P) :
    E0 g YX12_reads d 35 [(0, .ref 130), (1, .int i1), (2, .int i2), (3, .int i3), (4, .int i4)] [.int s0] M P := by
  have f1 : ob M 130 12 := L.s rfl (by decide)
  refine x_istore (lv1 := [(5, .int s0), (0, .ref 130), (1, .int i1), (2, .int i2), (3, .int i3), (4, .int i4)]) dX12_reads_35 (by decide) rfl ?_
  refine x_iload_n dX12_reads_37 4 rfl ?_
  refine x_if_ne 65 dX12_reads_38 (by decide) (fun c1 => ?_) (fun c1 => ?_)
  · exact EX.sub [1, 2, 3, 4, 5, 0] (k1 c1) rfl
  · refine x_iload dX12_reads_41 5 rfl ?_
    refine x_if_ne 65 dX12_reads_43 (by decide) (fun c2 => ?_) (fun c2 => ?_)
    · exact EX.sub [1, 2, 3, 4, 5, 0] (k2 c1 c2) rfl
    · refine x_iload dX12_reads_46 0 rfl ?_
      refine x_if_ne 65 dX12_reads_48 (by decide) (fun c3 => ?_) (fun c3 => ?_)
      · exact EX.sub [1, 2, 3, 4, 5, 0] (k3 c1 c2 c3) rfl
      · refine x_aload_n dX12_reads_51 1 rfl ?_
        refine x_getI fdX12_163 rfl dX12_reads_52 f1.1 f1.2 ?_
        refine x_iconst (v := 2) dX12_reads_55 (by decide) ?_
        refine x_ic_eq 65 dX12_reads_56 (by decide) (fun c4 => ?_) (fun c4 => ?_)
        · exact EX.sub [1, 2, 3, 4, 5, 0] (k4 c1 c2 c3 c4) rfl
        · refine x_aload_n dX12_reads_59 1 rfl ?_
          refine x_iconst (v := 1) dX12_reads_60 (by decide) ?_
          refine EX.sub [] (K0.v (As := [.int 1]) (st := []) cvX12_202 dX12_reads_61 rfl rfl f1 rfl (Nat.le_of_ble_eq_true rfl) (k5 c1 c2 c3 c4)) rfl
set_option maxRecDepth 8000 in
theorem qX12_reads_64 {g : GG} {d : Nat} {M : MM} {P : Option Value → MM → Prop} {s0 : Int32}
    (h1 : s0 &&& 1 = s0)
    (k1 : P (some (.int s0)) M) :
    E0 g YX12_reads d 64 [] [.int s0] M P := by
  exact x_zret rfl dX12_reads_64 (h1) (Nat.le_refl _) (Nat.le_refl _) (k1)
set_option maxRecDepth 8000 in
theorem qX12_reads_65 {g : GG} {d : Nat} {M : MM} {P : Option Value → MM → Prop} {i1 : Int32} {i2 : Int32} {i3 : Int32} {i4 : Int32} {i5 : Int32} {la lb pa pb rl : Nat} (L : Lay M la lb pa pb rl)
    (k1 : ¬ i1 = 5 → ¬ i4 = 0 → i4 = 0 → K0 g YX12_reads YX12_puts d 102 [.ref 130, .int 28] [(0, .ref 130), (1, .int i1), (2, .int i2), (4, .int i4)] [] M P)
    (k2 : ¬ i1 = 5 → ¬ i4 = 0 → ¬ (i4 = 0) → K0 g YX12_reads YX12_puts d 102 [.ref 130, .int 30] [(0, .ref 130), (1, .int i1), (2, .int i2), (4, .int i4)] [] M P)
    (k3 : ¬ i1 = 5 → i4 = 0 → i5 = 0 → i3 ≤ 0 → K0 g YX12_reads YX12_puts d 150 [.ref 130, .int (100 + (mi M 130 8))] [(0, .ref 130), (1, .int i1)] [] M P)
    (k4 : ¬ i1 = 5 → i4 = 0 → i5 = 0 → ¬ (i3 ≤ 0) → K0 g YX12_reads YX12_puts d 150 [.ref 130, .int i3] [(0, .ref 130), (1, .int i1)] [] M P)
    (k5 : ¬ i1 = 5 → i4 = 0 → ¬ (i5 = 0) → i4 = 0 → K0 g YX12_reads YX12_puts d 102 [.ref 130, .int 28] [(0, .ref 130), (1, .int i1), (2, .int i2), (4, .int i4)] [] M P)
    (k6 : ¬ i1 = 5 → i4 = 0 → ¬ (i5 = 0) → ¬ (i4 = 0) → K0 g YX12_reads YX12_puts d 102 [.ref 130, .int 30] [(0, .ref 130), (1, .int i1), (2, .int i2), (4, .int i4)] [] M P)
    (k7 : i1 = 5 → K0 g YX12_reads YX12_fails d 75 [.ref 130, .int 5] [] [] M P) :
    E0 g YX12_reads d 65 [(0, .ref 130), (1, .int i1), (2, .int i2), (3, .int i3), (4, .int i4), (5, .int i5)] [] M P := by
  have f1 : ob M 130 12 := L.s rfl (by decide)
  refine x_iload_n dX12_reads_65 1 rfl ?_
  refine x_iconst (v := 5) dX12_reads_66 (by decide) ?_
  refine x_ic_ne 76 dX12_reads_67 (by decide) (fun c1 => ?_) (fun c1 => ?_)
  · refine x_iload dX12_reads_76 4 rfl ?_
    refine x_if_ne 86 dX12_reads_78 (by decide) (fun c2 => ?_) (fun c2 => ?_)
    · refine x_aload_n dX12_reads_86 0 rfl ?_
      refine x_iload dX12_reads_87 4 rfl ?_
      refine x_if_eq 97 dX12_reads_89 (by decide) (fun c3 => ?_) (fun c3 => ?_)
      · refine x_bipush (v := 28) dX12_reads_97 (by decide) ?_
        refine EX.sub [0, 1, 2, 4] (K0.v (As := [.int 28]) (st := []) cvX12_205 dX12_reads_99 rfl rfl f1 rfl (Nat.le_of_ble_eq_true rfl) (k1 c1 c2 c3)) rfl
      · refine x_bipush (v := 30) dX12_reads_92 (by decide) ?_
        refine x_goto 99 dX12_reads_94 (by decide) ?_
        refine EX.sub [0, 1, 2, 4] (K0.v (As := [.int 30]) (st := []) cvX12_205 dX12_reads_99 rfl rfl f1 rfl (Nat.le_of_ble_eq_true rfl) (k2 c1 c2 c3)) rfl
    · refine x_iload dX12_reads_81 5 rfl ?_
      refine x_if_eq 131 dX12_reads_83 (by decide) (fun c3 => ?_) (fun c3 => ?_)
      · refine x_aload_n dX12_reads_131 0 rfl ?_
        refine x_iload_n dX12_reads_132 3 rfl ?_
        refine x_if_le 140 dX12_reads_133 (by decide) (fun c4 => ?_) (fun c4 => ?_)
        · refine x_bipush (v := 100) dX12_reads_140 (by decide) ?_
          refine x_aload_n dX12_reads_142 0 rfl ?_
          refine x_getI fdX12_160 rfl dX12_reads_143 f1.1 f1.2 ?_
          refine x_iadd dX12_reads_146 ?_
          refine EX.sub [0, 1] (K0.v (As := [.int (100 + (mi M 130 8))]) (st := []) cvX12_205 dX12_reads_147 rfl rfl f1 rfl (Nat.le_of_ble_eq_true rfl) (k3 c1 c2 c3 c4)) rfl
        · refine x_iload_n dX12_reads_136 3 rfl ?_
          refine x_goto 147 dX12_reads_137 (by decide) ?_
          refine EX.sub [0, 1] (K0.v (As := [.int i3]) (st := []) cvX12_205 dX12_reads_147 rfl rfl f1 rfl (Nat.le_of_ble_eq_true rfl) (k4 c1 c2 c3 c4)) rfl
      · refine x_aload_n dX12_reads_86 0 rfl ?_
        refine x_iload dX12_reads_87 4 rfl ?_
        refine x_if_eq 97 dX12_reads_89 (by decide) (fun c4 => ?_) (fun c4 => ?_)
        · refine x_bipush (v := 28) dX12_reads_97 (by decide) ?_
          refine EX.sub [0, 1, 2, 4] (K0.v (As := [.int 28]) (st := []) cvX12_205 dX12_reads_99 rfl rfl f1 rfl (Nat.le_of_ble_eq_true rfl) (k5 c1 c2 c3 c4)) rfl
        · refine x_bipush (v := 30) dX12_reads_92 (by decide) ?_
          refine x_goto 99 dX12_reads_94 (by decide) ?_
          refine EX.sub [0, 1, 2, 4] (K0.v (As := [.int 30]) (st := []) cvX12_205 dX12_reads_99 rfl rfl f1 rfl (Nat.le_of_ble_eq_true rfl) (k6 c1 c2 c3 c4)) rfl
  · refine x_aload_n dX12_reads_70 0 rfl ?_
    refine x_iconst (v := 5) dX12_reads_71 (by decide) ?_
    refine EX.sub [] (K0.v (As := [.int 5]) (st := []) cvX12_202 dX12_reads_72 rfl rfl f1 rfl (Nat.le_of_ble_eq_true rfl) (k7 c1)) rfl
set_option maxRecDepth 8000 in
theorem qX12_reads_75 {g : GG} {d : Nat} {M : MM} {P : Option Value → MM → Prop} {s0 : Int32}
    (h1 : s0 &&& 1 = s0)
    (k1 : P (some (.int s0)) M) :
    E0 g YX12_reads d 75 [] [.int s0] M P := by
  exact x_zret rfl dX12_reads_75 (h1) (Nat.le_refl _) (Nat.le_refl _) (k1)
set_option maxRecDepth 8000 in
theorem qX12_reads_102 {g : GG} {d : Nat} {M : MM} {P : Option Value → MM → Prop} {i1 : Int32} {i2 : Int32} {i4 : Int32} {M1 : MM} {M2 : MM} {M3 : MM} {M4 : MM} {la lb pa pb rl : Nat} (L : Lay M la lb pa pb rl)
    (qM1 : M1 = wi M 142 ((i1 + 1) : Int32).toNatClampNeg 2)
    (qM2 : M2 = wi M1 143 ((i1 + 1) : Int32).toNatClampNeg (vp_nar .boolean 0))
    (qM3 : M3 = wi M 142 ((i1 + 1) : Int32).toNatClampNeg 1)
    (qM4 : M4 = wi M3 143 ((i1 + 1) : Int32).toNatClampNeg (vp_nar .boolean 0))
    (h1 : i4 = 0 → vp_in (i1 + 1) 7)
    (h2 : i4 = 0 → vp_in (i1 + 1) 7)
    (h3 : ¬ (i4 = 0) → vp_in (i1 + 1) 7)
    (h4 : ¬ (i4 = 0) → vp_in (i1 + 1) 7)
    (k1 : i4 = 0 → K0 g YX12_reads YX12_nextToken d 176 [.ref 130] [(0, .ref 130), (1, .int (i1 + 1)), (2, .int i2)] [] M2 P)
    (k2 : ¬ (i4 = 0) → K0 g YX12_reads YX12_nextToken d 176 [.ref 130] [(0, .ref 130), (1, .int (i1 + 1)), (2, .int i2)] [] M4 P) :
    E0 g YX12_reads d 102 [(0, .ref 130), (1, .int i1), (2, .int i2), (4, .int i4)] [] M P := by
  have f1 : ob M 130 12 := L.s rfl (by decide)
  have f2 : mr M 130 21 = some 142 := L.r 137 rfl
  have f3 : ar M 142 1 7 := L.s rfl (by decide)
  have f4 : mr M 130 22 = some 143 := L.r 138 rfl
  have f5 : ar M 143 3 7 := L.s rfl (by decide)
  subst qM1 qM2 qM3 qM4
  refine x_iinc (v := (i1 + 1)) (lv1 := [(1, .int (i1 + 1)), (0, .ref 130), (2, .int i2), (4, .int i4)]) dX12_reads_102 1 rfl rfl (by decide) rfl ?_
  refine x_aload_n dX12_reads_105 1 rfl ?_
  refine x_getR fdX12_44 rfl dX12_reads_106 f1.1 f1.2 f2 ?_
  refine x_iload_n dX12_reads_109 0 rfl ?_
  refine x_iload dX12_reads_110 3 rfl ?_
  refine x_if_eq 119 dX12_reads_112 (by decide) (fun c1 => ?_) (fun c1 => ?_)
  · refine x_iconst (v := 2) dX12_reads_119 (by decide) ?_
    refine x_iast dX12_reads_120 f3.1 f3.2 (h1 c1) ?_
    refine x_aload_n dX12_reads_121 1 rfl ?_
    refine x_getR fdX12_47 rfl dX12_reads_122 f1.1 f1.2 f4 ?_
    refine x_iload_n dX12_reads_125 0 rfl ?_
    refine x_iconst (v := 0) dX12_reads_126 (by decide) ?_
    refine x_zast dX12_reads_127 f5.1 f5.2 (h2 c1) ?_
    refine x_goto 172 dX12_reads_128 (by decide) ?_
    refine x_aload_n dX12_reads_172 1 rfl ?_
    refine EX.sub [1, 0, 2] (K0.v (As := []) (st := []) cvX12_209 dX12_reads_173 rfl rfl f1 rfl (Nat.le_of_ble_eq_true rfl) (k1 c1)) rfl
  · refine x_iconst (v := 1) dX12_reads_115 (by decide) ?_
    refine x_goto 120 dX12_reads_116 (by decide) ?_
    refine x_iast dX12_reads_120 f3.1 f3.2 (h3 c1) ?_
    refine x_aload_n dX12_reads_121 1 rfl ?_
    refine x_getR fdX12_47 rfl dX12_reads_122 f1.1 f1.2 f4 ?_
    refine x_iload_n dX12_reads_125 0 rfl ?_
    refine x_iconst (v := 0) dX12_reads_126 (by decide) ?_
    refine x_zast dX12_reads_127 f5.1 f5.2 (h4 c1) ?_
    refine x_goto 172 dX12_reads_128 (by decide) ?_
    refine x_aload_n dX12_reads_172 1 rfl ?_
    refine EX.sub [1, 0, 2] (K0.v (As := []) (st := []) cvX12_209 dX12_reads_173 rfl rfl f1 rfl (Nat.le_of_ble_eq_true rfl) (k2 c1)) rfl
set_option maxRecDepth 8000 in
theorem qX12_reads_150 {g : GG} {d : Nat} {M : MM} {P : Option Value → MM → Prop} {i1 : Int32}
    (k1 : E0 g YX12_reads d 152 [(0, .ref 130), (1, .int i1), (2, .int 0)] [] M P) :
    E0 g YX12_reads d 150 [(0, .ref 130), (1, .int i1)] [] M P := by
  refine x_iconst (v := 0) dX12_reads_150 (by decide) ?_
  refine x_istore_n (lv1 := [(2, .int 0), (0, .ref 130), (1, .int i1)]) dX12_reads_151 (by decide) rfl ?_
  exact EX.sub [1, 2, 0] k1 rfl
set_option maxRecDepth 8000 in
theorem qX12_reads_152 {g : GG} {d : Nat} {M : MM} {P : Option Value → MM → Prop} {i1 : Int32} {i2 : Int32} {la lb pa pb rl : Nat} (L : Lay M la lb pa pb rl)
    (h1 : ¬ (i1 ≤ 0) → vp_in i1 7)
    (k1 : i1 ≤ 0 → K0 g YX12_reads YX12_nextToken d 176 [.ref 130] [(0, .ref 130), (1, .int i1), (2, .int i2)] [] M P)
    (k2 : ¬ (i1 ≤ 0) → ¬ (mi M 142 (i1 : Int32).toNatClampNeg) = 1 → K0 g YX12_reads YX12_nextToken d 176 [.ref 130] [(0, .ref 130), (1, .int i1), (2, .int i2)] [] M P)
    (k3 : ¬ (i1 ≤ 0) → (mi M 142 (i1 : Int32).toNatClampNeg) = 1 → E0 g YX12_reads d 152 [(0, .ref 130), (1, .int (i1 + (-1))), (2, .int i2)] [] M P) :
    E0 g YX12_reads d 152 [(0, .ref 130), (1, .int i1), (2, .int i2)] [] M P := by
  have f1 : ob M 130 12 := L.s rfl (by decide)
  have f2 : mr M 130 21 = some 142 := L.r 137 rfl
  have f3 : ar M 142 1 7 := L.s rfl (by decide)
  refine x_iload_n dX12_reads_152 1 rfl ?_
  refine x_if_le 172 dX12_reads_153 (by decide) (fun c1 => ?_) (fun c1 => ?_)
  · refine x_aload_n dX12_reads_172 0 rfl ?_
    refine EX.sub [0, 1, 2] (K0.v (As := []) (st := []) cvX12_209 dX12_reads_173 rfl rfl f1 rfl (Nat.le_of_ble_eq_true rfl) (k1 c1)) rfl
  · refine x_aload_n dX12_reads_156 0 rfl ?_
    refine x_getR fdX12_44 rfl dX12_reads_157 f1.1 f1.2 f2 ?_
    refine x_iload_n dX12_reads_160 1 rfl ?_
    refine x_iald dX12_reads_161 f3.1 f3.2 (h1 c1) ?_
    refine x_iconst (v := 1) dX12_reads_162 (by decide) ?_
    refine x_ic_ne 172 dX12_reads_163 (by decide) (fun c2 => ?_) (fun c2 => ?_)
    · refine x_aload_n dX12_reads_172 0 rfl ?_
      refine EX.sub [0, 1, 2] (K0.v (As := []) (st := []) cvX12_209 dX12_reads_173 rfl rfl f1 rfl (Nat.le_of_ble_eq_true rfl) (k2 c1 c2)) rfl
    · refine x_iinc (v := (i1 + (-1))) (lv1 := [(1, .int (i1 + (-1))), (0, .ref 130), (2, .int i2)]) dX12_reads_166 1 rfl rfl (by decide) rfl ?_
      refine x_goto 152 dX12_reads_169 (by decide) ?_
      exact EX.sub [1, 0, 2] (k3 c1 c2) rfl
set_option maxRecDepth 8000 in
theorem qX12_reads_176 {g : GG} {d : Nat} {M : MM} {P : Option Value → MM → Prop} {i1 : Int32} {i2 : Int32}
    (k1 : E0 g YX12_reads d 11 [(0, .ref 130), (1, .int i1), (2, .int i2)] [] M P) :
    E0 g YX12_reads d 176 [(0, .ref 130), (1, .int i1), (2, .int i2)] [] M P := by
  refine x_goto 11 dX12_reads_176 (by decide) ?_
  exact EX.sub [0, 1, 2] k1 rfl
set_option maxRecDepth 8000 in
theorem qX12_reads_185 {g : GG} {d : Nat} {M : MM} {P : Option Value → MM → Prop} {i1 : Int32} {i2 : Int32} {s0 : Int32} {la lb pa pb rl : Nat} (L : Lay M la lb pa pb rl)
    (k1 : ¬ s0 = 0 → K0 g YX12_reads YX12_isSign d 213 [.ref 130, .int 43] [(0, .ref 130), (1, .int i1)] [.ref 130] M P)
    (k2 : s0 = 0 → K0 g YX12_reads YX12_isSign d 194 [.ref 130, .int 45] [(0, .ref 130), (1, .int i1), (2, .int i2)] [] M P) :
    E0 g YX12_reads d 185 [(0, .ref 130), (1, .int i1), (2, .int i2)] [.int s0] M P := by
  have f1 : ob M 130 12 := L.s rfl (by decide)
  refine x_if_ne 206 dX12_reads_185 (by decide) (fun c1 => ?_) (fun c1 => ?_)
  · refine x_aload_n dX12_reads_206 0 rfl ?_
    refine x_aload_n dX12_reads_207 0 rfl ?_
    refine x_bipush (v := 43) dX12_reads_208 (by decide) ?_
    refine EX.sub [0, 1] (K0.v (As := [.int 43]) (st := [.ref 130]) cvX12_198 dX12_reads_210 rfl rfl f1 rfl (Nat.le_of_ble_eq_true rfl) (k1 c1)) rfl
  · refine x_aload_n dX12_reads_188 0 rfl ?_
    refine x_bipush (v := 45) dX12_reads_189 (by decide) ?_
    refine EX.sub [0, 1, 2] (K0.v (As := [.int 45]) (st := []) cvX12_198 dX12_reads_191 rfl rfl f1 rfl (Nat.le_of_ble_eq_true rfl) (k2 c1)) rfl
set_option maxRecDepth 8000 in
theorem qX12_reads_194 {g : GG} {d : Nat} {M : MM} {P : Option Value → MM → Prop} {i1 : Int32} {i2 : Int32} {s0 : Int32} {la lb pa pb rl : Nat} (L : Lay M la lb pa pb rl)
    (k1 : ¬ s0 = 0 → K0 g YX12_reads YX12_isSign d 213 [.ref 130, .int 43] [(0, .ref 130), (1, .int i1)] [.ref 130] M P)
    (k2 : s0 = 0 → K0 g YX12_reads YX12_isSign d 203 [.ref 130, .int 42] [(0, .ref 130), (1, .int i1), (2, .int i2)] [] M P) :
    E0 g YX12_reads d 194 [(0, .ref 130), (1, .int i1), (2, .int i2)] [.int s0] M P := by
  have f1 : ob M 130 12 := L.s rfl (by decide)
  refine x_if_ne 206 dX12_reads_194 (by decide) (fun c1 => ?_) (fun c1 => ?_)
  · refine x_aload_n dX12_reads_206 0 rfl ?_
    refine x_aload_n dX12_reads_207 0 rfl ?_
    refine x_bipush (v := 43) dX12_reads_208 (by decide) ?_
    refine EX.sub [0, 1] (K0.v (As := [.int 43]) (st := [.ref 130]) cvX12_198 dX12_reads_210 rfl rfl f1 rfl (Nat.le_of_ble_eq_true rfl) (k1 c1)) rfl
  · refine x_aload_n dX12_reads_197 0 rfl ?_
    refine x_bipush (v := 42) dX12_reads_198 (by decide) ?_
    refine EX.sub [0, 1, 2] (K0.v (As := [.int 42]) (st := []) cvX12_198 dX12_reads_200 rfl rfl f1 rfl (Nat.le_of_ble_eq_true rfl) (k2 c1)) rfl
set_option maxRecDepth 8000 in
theorem qX12_reads_203 {g : GG} {d : Nat} {M : MM} {P : Option Value → MM → Prop} {i1 : Int32} {i2 : Int32} {s0 : Int32} {la lb pa pb rl : Nat} (L : Lay M la lb pa pb rl)
    (k1 : s0 = 0 → K0 g YX12_reads YX12_isSign d 251 [.ref 130, .int 60] [(0, .ref 130), (1, .int i1), (2, .int i2)] [] M P)
    (k2 : ¬ (s0 = 0) → K0 g YX12_reads YX12_isSign d 213 [.ref 130, .int 43] [(0, .ref 130), (1, .int i1)] [.ref 130] M P) :
    E0 g YX12_reads d 203 [(0, .ref 130), (1, .int i1), (2, .int i2)] [.int s0] M P := by
  have f1 : ob M 130 12 := L.s rfl (by decide)
  refine x_if_eq 245 dX12_reads_203 (by decide) (fun c1 => ?_) (fun c1 => ?_)
  · refine x_aload_n dX12_reads_245 0 rfl ?_
    refine x_bipush (v := 60) dX12_reads_246 (by decide) ?_
    refine EX.sub [0, 1, 2] (K0.v (As := [.int 60]) (st := []) cvX12_198 dX12_reads_248 rfl rfl f1 rfl (Nat.le_of_ble_eq_true rfl) (k1 c1)) rfl
  · refine x_aload_n dX12_reads_206 0 rfl ?_
    refine x_aload_n dX12_reads_207 0 rfl ?_
    refine x_bipush (v := 43) dX12_reads_208 (by decide) ?_
    refine EX.sub [0, 1] (K0.v (As := [.int 43]) (st := [.ref 130]) cvX12_198 dX12_reads_210 rfl rfl f1 rfl (Nat.le_of_ble_eq_true rfl) (k2 c1)) rfl
set_option maxRecDepth 8000 in
theorem qX12_reads_213 {g : GG} {d : Nat} {M : MM} {P : Option Value → MM → Prop} {i1 : Int32} {s0 : Nat} {s1 : Int32} {la lb pa pb rl : Nat} (L : Lay M la lb pa pb rl)
    (h1 : ob M s0 12)
    (k1 : s1 = 0 → K0 g YX12_reads YX12_isSign d 227 [.ref 130, .int 45] [(0, .ref 130), (1, .int i1)] [.ref s0] M P)
    (k2 : ¬ (s1 = 0) → K0 g YX12_reads YX12_puts d 240 [.ref s0, .int 20] [(0, .ref 130), (1, .int i1)] [] M P) :
    E0 g YX12_reads d 213 [(0, .ref 130), (1, .int i1)] [.int s1, .ref s0] M P := by
  have f1 : ob M 130 12 := L.s rfl (by decide)
  refine x_if_eq 221 dX12_reads_213 (by decide) (fun c1 => ?_) (fun c1 => ?_)
  · refine x_aload_n dX12_reads_221 0 rfl ?_
    refine x_bipush (v := 45) dX12_reads_222 (by decide) ?_
    refine EX.sub [0, 1] (K0.v (As := [.int 45]) (st := [.ref s0]) cvX12_198 dX12_reads_224 rfl rfl f1 rfl (Nat.le_of_ble_eq_true rfl) (k1 c1)) rfl
  · refine x_bipush (v := 20) dX12_reads_216 (by decide) ?_
    refine x_goto 237 dX12_reads_218 (by decide) ?_
    refine EX.sub [0, 1] (K0.v (As := [.int 20]) (st := []) cvX12_205 dX12_reads_237 rfl rfl h1 rfl (Nat.le_of_ble_eq_true rfl) (k2 c1)) rfl
set_option maxRecDepth 8000 in
theorem qX12_reads_227 {g : GG} {d : Nat} {M : MM} {P : Option Value → MM → Prop} {i1 : Int32} {s0 : Nat} {s1 : Int32}
    (h1 : ob M s0 12)
    (k1 : s1 = 0 → K0 g YX12_reads YX12_puts d 240 [.ref s0, .int 22] [(0, .ref 130), (1, .int i1)] [] M P)
    (k2 : ¬ (s1 = 0) → K0 g YX12_reads YX12_puts d 240 [.ref s0, .int 21] [(0, .ref 130), (1, .int i1)] [] M P) :
    E0 g YX12_reads d 227 [(0, .ref 130), (1, .int i1)] [.int s1, .ref s0] M P := by
  refine x_if_eq 235 dX12_reads_227 (by decide) (fun c1 => ?_) (fun c1 => ?_)
  · refine x_bipush (v := 22) dX12_reads_235 (by decide) ?_
    refine EX.sub [0, 1] (K0.v (As := [.int 22]) (st := []) cvX12_205 dX12_reads_237 rfl rfl h1 rfl (Nat.le_of_ble_eq_true rfl) (k1 c1)) rfl
  · refine x_bipush (v := 21) dX12_reads_230 (by decide) ?_
    refine x_goto 237 dX12_reads_232 (by decide) ?_
    refine EX.sub [0, 1] (K0.v (As := [.int 21]) (st := []) cvX12_205 dX12_reads_237 rfl rfl h1 rfl (Nat.le_of_ble_eq_true rfl) (k2 c1)) rfl
set_option maxRecDepth 8000 in
theorem qX12_reads_240 {g : GG} {d : Nat} {M : MM} {P : Option Value → MM → Prop} {i1 : Int32} {la lb pa pb rl : Nat} (L : Lay M la lb pa pb rl)
    (k1 : K0 g YX12_reads YX12_nextToken d 428 [.ref 130] [(0, .ref 130), (1, .int i1), (2, .int 1)] [] M P) :
    E0 g YX12_reads d 240 [(0, .ref 130), (1, .int i1)] [] M P := by
  have f1 : ob M 130 12 := L.s rfl (by decide)
  refine x_iconst (v := 1) dX12_reads_240 (by decide) ?_
  refine x_istore_n (lv1 := [(2, .int 1), (0, .ref 130), (1, .int i1)]) dX12_reads_241 (by decide) rfl ?_
  refine x_goto 424 dX12_reads_242 (by decide) ?_
  refine x_aload_n dX12_reads_424 1 rfl ?_
  refine EX.sub [1, 2, 0] (K0.v (As := []) (st := []) cvX12_209 dX12_reads_425 rfl rfl f1 rfl (Nat.le_of_ble_eq_true rfl) (k1)) rfl
set_option maxRecDepth 8000 in
theorem qX12_reads_251 {g : GG} {d : Nat} {M : MM} {P : Option Value → MM → Prop} {i1 : Int32} {i2 : Int32} {s0 : Int32} {la lb pa pb rl : Nat} (L : Lay M la lb pa pb rl)
    (h1 : ¬ s0 = 0 → vp_in i1 7)
    (k1 : ¬ s0 = 0 → ¬ (mi M 143 (i1 : Int32).toNatClampNeg) = 0 → K0 g YX12_reads YX12_isWord d 311 [.ref 130, .long (1111)] [(0, .ref 130), (1, .int i1), (2, .int i2)] [] M P)
    (k2 : ¬ s0 = 0 → (mi M 143 (i1 : Int32).toNatClampNeg) = 0 → K0 g YX12_reads YX12_isSign d 279 [.ref 130, .int 60] [(0, .ref 130), (1, .int i1)] [.ref 130] M P)
    (k3 : s0 = 0 → K0 g YX12_reads YX12_isSign d 260 [.ref 130, .int 61] [(0, .ref 130), (1, .int i1), (2, .int i2)] [] M P) :
    E0 g YX12_reads d 251 [(0, .ref 130), (1, .int i1), (2, .int i2)] [.int s0] M P := by
  have f1 : ob M 130 12 := L.s rfl (by decide)
  have f2 : mr M 130 22 = some 143 := L.r 138 rfl
  have f3 : ar M 143 3 7 := L.s rfl (by decide)
  refine x_if_ne 263 dX12_reads_251 (by decide) (fun c1 => ?_) (fun c1 => ?_)
  · refine x_aload_n dX12_reads_263 0 rfl ?_
    refine x_getR fdX12_47 rfl dX12_reads_264 f1.1 f1.2 f2 ?_
    refine x_iload_n dX12_reads_267 1 rfl ?_
    refine x_zald dX12_reads_268 f3.1 f3.2 (h1 c1) ?_
    refine x_if_ne 304 dX12_reads_269 (by decide) (fun c2 => ?_) (fun c2 => ?_)
    · refine x_aload_n dX12_reads_304 0 rfl ?_
      refine x_ldc2 dX12_reads_305 kcX12_212 ?_
      refine EX.sub [0, 1, 2] (K0.v (As := [.long (1111)]) (st := []) cvX12_194 dX12_reads_308 rfl rfl f1 rfl (Nat.le_of_ble_eq_true rfl) (k1 c1 c2)) rfl
    · refine x_aload_n dX12_reads_272 0 rfl ?_
      refine x_aload_n dX12_reads_273 0 rfl ?_
      refine x_bipush (v := 60) dX12_reads_274 (by decide) ?_
      refine EX.sub [0, 1] (K0.v (As := [.int 60]) (st := [.ref 130]) cvX12_198 dX12_reads_276 rfl rfl f1 rfl (Nat.le_of_ble_eq_true rfl) (k2 c1 c2)) rfl
  · refine x_aload_n dX12_reads_254 0 rfl ?_
    refine x_bipush (v := 61) dX12_reads_255 (by decide) ?_
    refine EX.sub [0, 1, 2] (K0.v (As := [.int 61]) (st := []) cvX12_198 dX12_reads_257 rfl rfl f1 rfl (Nat.le_of_ble_eq_true rfl) (k3 c1)) rfl
set_option maxRecDepth 8000 in
theorem qX12_reads_260 {g : GG} {d : Nat} {M : MM} {P : Option Value → MM → Prop} {i1 : Int32} {i2 : Int32} {s0 : Int32} {la lb pa pb rl : Nat} (L : Lay M la lb pa pb rl)
    (h1 : ¬ (s0 = 0) → vp_in i1 7)
    (k1 : s0 = 0 → K0 g YX12_reads YX12_isWord d 311 [.ref 130, .long (1111)] [(0, .ref 130), (1, .int i1), (2, .int i2)] [] M P)
    (k2 : ¬ (s0 = 0) → ¬ (mi M 143 (i1 : Int32).toNatClampNeg) = 0 → K0 g YX12_reads YX12_isWord d 311 [.ref 130, .long (1111)] [(0, .ref 130), (1, .int i1), (2, .int i2)] [] M P)
    (k3 : ¬ (s0 = 0) → (mi M 143 (i1 : Int32).toNatClampNeg) = 0 → K0 g YX12_reads YX12_isSign d 279 [.ref 130, .int 60] [(0, .ref 130), (1, .int i1)] [.ref 130] M P) :
    E0 g YX12_reads d 260 [(0, .ref 130), (1, .int i1), (2, .int i2)] [.int s0] M P := by
  have f1 : ob M 130 12 := L.s rfl (by decide)
  have f2 : mr M 130 22 = some 143 := L.r 138 rfl
  have f3 : ar M 143 3 7 := L.s rfl (by decide)
  refine x_if_eq 304 dX12_reads_260 (by decide) (fun c1 => ?_) (fun c1 => ?_)
  · refine x_aload_n dX12_reads_304 0 rfl ?_
    refine x_ldc2 dX12_reads_305 kcX12_212 ?_
    refine EX.sub [0, 1, 2] (K0.v (As := [.long (1111)]) (st := []) cvX12_194 dX12_reads_308 rfl rfl f1 rfl (Nat.le_of_ble_eq_true rfl) (k1 c1)) rfl
  · refine x_aload_n dX12_reads_263 0 rfl ?_
    refine x_getR fdX12_47 rfl dX12_reads_264 f1.1 f1.2 f2 ?_
    refine x_iload_n dX12_reads_267 1 rfl ?_
    refine x_zald dX12_reads_268 f3.1 f3.2 (h1 c1) ?_
    refine x_if_ne 304 dX12_reads_269 (by decide) (fun c2 => ?_) (fun c2 => ?_)
    · refine x_aload_n dX12_reads_304 0 rfl ?_
      refine x_ldc2 dX12_reads_305 kcX12_212 ?_
      refine EX.sub [0, 1, 2] (K0.v (As := [.long (1111)]) (st := []) cvX12_194 dX12_reads_308 rfl rfl f1 rfl (Nat.le_of_ble_eq_true rfl) (k2 c1 c2)) rfl
    · refine x_aload_n dX12_reads_272 0 rfl ?_
      refine x_aload_n dX12_reads_273 0 rfl ?_
      refine x_bipush (v := 60) dX12_reads_274 (by decide) ?_
      refine EX.sub [0, 1] (K0.v (As := [.int 60]) (st := [.ref 130]) cvX12_198 dX12_reads_276 rfl rfl f1 rfl (Nat.le_of_ble_eq_true rfl) (k3 c1 c2)) rfl
set_option maxRecDepth 8000 in
theorem qX12_reads_279 {g : GG} {d : Nat} {M : MM} {P : Option Value → MM → Prop} {i1 : Int32} {s0 : Nat} {s1 : Int32}
    (h1 : ob M s0 12)
    (k1 : s1 = 0 → K0 g YX12_reads YX12_puts d 292 [.ref s0, .int 25] [(0, .ref 130), (1, .int i1)] [] M P)
    (k2 : ¬ (s1 = 0) → K0 g YX12_reads YX12_puts d 292 [.ref s0, .int 24] [(0, .ref 130), (1, .int i1)] [] M P) :
    E0 g YX12_reads d 279 [(0, .ref 130), (1, .int i1)] [.int s1, .ref s0] M P := by
  refine x_if_eq 287 dX12_reads_279 (by decide) (fun c1 => ?_) (fun c1 => ?_)
  · refine x_bipush (v := 25) dX12_reads_287 (by decide) ?_
    refine EX.sub [0, 1] (K0.v (As := [.int 25]) (st := []) cvX12_205 dX12_reads_289 rfl rfl h1 rfl (Nat.le_of_ble_eq_true rfl) (k1 c1)) rfl
  · refine x_bipush (v := 24) dX12_reads_282 (by decide) ?_
    refine x_goto 289 dX12_reads_284 (by decide) ?_
    refine EX.sub [0, 1] (K0.v (As := [.int 24]) (st := []) cvX12_205 dX12_reads_289 rfl rfl h1 rfl (Nat.le_of_ble_eq_true rfl) (k2 c1)) rfl
set_option maxRecDepth 8000 in
theorem qX12_reads_292 {g : GG} {d : Nat} {M : MM} {P : Option Value → MM → Prop} {i1 : Int32} {M1 : MM} {la lb pa pb rl : Nat} (L : Lay M la lb pa pb rl)
    (qM1 : M1 = wi M 143 (i1 : Int32).toNatClampNeg (vp_nar .boolean 1))
    (h1 : vp_in i1 7)
    (k1 : K0 g YX12_reads YX12_nextToken d 428 [.ref 130] [(0, .ref 130), (1, .int i1), (2, .int 1)] [] M1 P) :
    E0 g YX12_reads d 292 [(0, .ref 130), (1, .int i1)] [] M P := by
  have f1 : ob M 130 12 := L.s rfl (by decide)
  have f2 : mr M 130 22 = some 143 := L.r 138 rfl
  have f3 : ar M 143 3 7 := L.s rfl (by decide)
  subst qM1
  refine x_aload_n dX12_reads_292 0 rfl ?_
  refine x_getR fdX12_47 rfl dX12_reads_293 f1.1 f1.2 f2 ?_
  refine x_iload_n dX12_reads_296 1 rfl ?_
  refine x_iconst (v := 1) dX12_reads_297 (by decide) ?_
  refine x_zast dX12_reads_298 f3.1 f3.2 (h1) ?_
  refine x_iconst (v := 1) dX12_reads_299 (by decide) ?_
  refine x_istore_n (lv1 := [(2, .int 1), (0, .ref 130), (1, .int i1)]) dX12_reads_300 (by decide) rfl ?_
  refine x_goto 424 dX12_reads_301 (by decide) ?_
  refine x_aload_n dX12_reads_424 1 rfl ?_
  refine EX.sub [1, 2, 0] (K0.v (As := []) (st := []) cvX12_209 dX12_reads_425 rfl rfl f1 rfl (Nat.le_of_ble_eq_true rfl) (k1)) rfl
set_option maxRecDepth 8000 in
theorem qX12_reads_311 {g : GG} {d : Nat} {M : MM} {P : Option Value → MM → Prop} {i1 : Int32} {i2 : Int32} {s0 : Int32} {la lb pa pb rl : Nat} (L : Lay M la lb pa pb rl)
    (k1 : ¬ s0 = 0 → K0 g YX12_reads YX12_isWord d 332 [.ref 130, .long (1111)] [(0, .ref 130), (1, .int i1)] [.ref 130] M P)
    (k2 : s0 = 0 → K0 g YX12_reads YX12_isWord d 321 [.ref 130, .long (423)] [(0, .ref 130), (1, .int i1), (2, .int i2)] [] M P) :
    E0 g YX12_reads d 311 [(0, .ref 130), (1, .int i1), (2, .int i2)] [.int s0] M P := by
  have f1 : ob M 130 12 := L.s rfl (by decide)
  refine x_if_ne 324 dX12_reads_311 (by decide) (fun c1 => ?_) (fun c1 => ?_)
  · refine x_aload_n dX12_reads_324 0 rfl ?_
    refine x_aload_n dX12_reads_325 0 rfl ?_
    refine x_ldc2 dX12_reads_326 kcX12_212 ?_
    refine EX.sub [0, 1] (K0.v (As := [.long (1111)]) (st := [.ref 130]) cvX12_194 dX12_reads_329 rfl rfl f1 rfl (Nat.le_of_ble_eq_true rfl) (k1 c1)) rfl
  · refine x_aload_n dX12_reads_314 0 rfl ?_
    refine x_ldc2 dX12_reads_315 kcX12_214 ?_
    refine EX.sub [0, 1, 2] (K0.v (As := [.long (423)]) (st := []) cvX12_194 dX12_reads_318 rfl rfl f1 rfl (Nat.le_of_ble_eq_true rfl) (k2 c1)) rfl
set_option maxRecDepth 8000 in
theorem qX12_reads_321 {g : GG} {d : Nat} {M : MM} {P : Option Value → MM → Prop} {i1 : Int32} {i2 : Int32} {s0 : Int32} {la lb pa pb rl : Nat} (L : Lay M la lb pa pb rl)
    (k1 : s0 = 0 → K0 g YX12_reads YX12_isSign d 363 [.ref 130, .int 41] [(0, .ref 130), (1, .int i1), (2, .int i2)] [] M P)
    (k2 : ¬ (s0 = 0) → K0 g YX12_reads YX12_isWord d 332 [.ref 130, .long (1111)] [(0, .ref 130), (1, .int i1)] [.ref 130] M P) :
    E0 g YX12_reads d 321 [(0, .ref 130), (1, .int i1), (2, .int i2)] [.int s0] M P := by
  have f1 : ob M 130 12 := L.s rfl (by decide)
  refine x_if_eq 357 dX12_reads_321 (by decide) (fun c1 => ?_) (fun c1 => ?_)
  · refine x_aload_n dX12_reads_357 0 rfl ?_
    refine x_bipush (v := 41) dX12_reads_358 (by decide) ?_
    refine EX.sub [0, 1, 2] (K0.v (As := [.int 41]) (st := []) cvX12_198 dX12_reads_360 rfl rfl f1 rfl (Nat.le_of_ble_eq_true rfl) (k1 c1)) rfl
  · refine x_aload_n dX12_reads_324 0 rfl ?_
    refine x_aload_n dX12_reads_325 0 rfl ?_
    refine x_ldc2 dX12_reads_326 kcX12_212 ?_
    refine EX.sub [0, 1] (K0.v (As := [.long (1111)]) (st := [.ref 130]) cvX12_194 dX12_reads_329 rfl rfl f1 rfl (Nat.le_of_ble_eq_true rfl) (k2 c1)) rfl
set_option maxRecDepth 8000 in
theorem qX12_reads_332 {g : GG} {d : Nat} {M : MM} {P : Option Value → MM → Prop} {i1 : Int32} {s0 : Nat} {s1 : Int32}
    (h1 : ob M s0 12)
    (k1 : s1 = 0 → K0 g YX12_reads YX12_puts d 345 [.ref s0, .int 27] [(0, .ref 130), (1, .int i1)] [] M P)
    (k2 : ¬ (s1 = 0) → K0 g YX12_reads YX12_puts d 345 [.ref s0, .int 26] [(0, .ref 130), (1, .int i1)] [] M P) :
    E0 g YX12_reads d 332 [(0, .ref 130), (1, .int i1)] [.int s1, .ref s0] M P := by
  refine x_if_eq 340 dX12_reads_332 (by decide) (fun c1 => ?_) (fun c1 => ?_)
  · refine x_bipush (v := 27) dX12_reads_340 (by decide) ?_
    refine EX.sub [0, 1] (K0.v (As := [.int 27]) (st := []) cvX12_205 dX12_reads_342 rfl rfl h1 rfl (Nat.le_of_ble_eq_true rfl) (k1 c1)) rfl
  · refine x_bipush (v := 26) dX12_reads_335 (by decide) ?_
    refine x_goto 342 dX12_reads_337 (by decide) ?_
    refine EX.sub [0, 1] (K0.v (As := [.int 26]) (st := []) cvX12_205 dX12_reads_342 rfl rfl h1 rfl (Nat.le_of_ble_eq_true rfl) (k2 c1)) rfl
set_option maxRecDepth 8000 in
theorem qX12_reads_345 {g : GG} {d : Nat} {M : MM} {P : Option Value → MM → Prop} {i1 : Int32} {M1 : MM} {la lb pa pb rl : Nat} (L : Lay M la lb pa pb rl)
    (qM1 : M1 = wi M 143 (i1 : Int32).toNatClampNeg (vp_nar .boolean 0))
    (h1 : vp_in i1 7)
    (k1 : K0 g YX12_reads YX12_nextToken d 428 [.ref 130] [(0, .ref 130), (1, .int i1), (2, .int 1)] [] M1 P) :
    E0 g YX12_reads d 345 [(0, .ref 130), (1, .int i1)] [] M P := by
  have f1 : ob M 130 12 := L.s rfl (by decide)
  have f2 : mr M 130 22 = some 143 := L.r 138 rfl
  have f3 : ar M 143 3 7 := L.s rfl (by decide)
  subst qM1
  refine x_aload_n dX12_reads_345 0 rfl ?_
  refine x_getR fdX12_47 rfl dX12_reads_346 f1.1 f1.2 f2 ?_
  refine x_iload_n dX12_reads_349 1 rfl ?_
  refine x_iconst (v := 0) dX12_reads_350 (by decide) ?_
  refine x_zast dX12_reads_351 f3.1 f3.2 (h1) ?_
  refine x_iconst (v := 1) dX12_reads_352 (by decide) ?_
  refine x_istore_n (lv1 := [(2, .int 1), (0, .ref 130), (1, .int i1)]) dX12_reads_353 (by decide) rfl ?_
  refine x_goto 424 dX12_reads_354 (by decide) ?_
  refine x_aload_n dX12_reads_424 1 rfl ?_
  refine EX.sub [1, 2, 0] (K0.v (As := []) (st := []) cvX12_209 dX12_reads_425 rfl rfl f1 rfl (Nat.le_of_ble_eq_true rfl) (k1)) rfl
set_option maxRecDepth 8000 in
theorem qX12_reads_363 {g : GG} {d : Nat} {M : MM} {P : Option Value → MM → Prop} {i1 : Int32} {i2 : Int32} {s0 : Int32} {la lb pa pb rl : Nat} (L : Lay M la lb pa pb rl)
    (k1 : s0 = 0 → ¬ i1 = 0 → K0 g YX12_reads YX12_fails d 423 [.ref 130, .int 1] [] [] M P)
    (k2 : s0 = 0 → i1 = 0 → K0 g YX12_reads YX12_isSign d 409 [.ref 130, .int 59] [(0, .ref 130)] [] M P)
    (k3 : ¬ (s0 = 0) → i1 ≤ 0 → ¬ i1 = 0 → K0 g YX12_reads YX12_fails d 423 [.ref 130, .int 1] [] [] M P)
    (k4 : ¬ (s0 = 0) → i1 ≤ 0 → i1 = 0 → K0 g YX12_reads YX12_isSign d 409 [.ref 130, .int 59] [(0, .ref 130)] [] M P)
    (k5 : ¬ (s0 = 0) → ¬ (i1 ≤ 0) → K0 g YX12_reads YX12_puts d 376 [.ref 130, .int 29] [(0, .ref 130), (1, .int i1), (2, .int i2)] [] M P) :
    E0 g YX12_reads d 363 [(0, .ref 130), (1, .int i1), (2, .int i2)] [.int s0] M P := by
  have f1 : ob M 130 12 := L.s rfl (by decide)
  refine x_if_eq 399 dX12_reads_363 (by decide) (fun c1 => ?_) (fun c1 => ?_)
  · refine x_iload_n dX12_reads_399 1 rfl ?_
    refine x_if_ne 418 dX12_reads_400 (by decide) (fun c2 => ?_) (fun c2 => ?_)
    · refine x_aload_n dX12_reads_418 0 rfl ?_
      refine x_iconst (v := 1) dX12_reads_419 (by decide) ?_
      refine EX.sub [] (K0.v (As := [.int 1]) (st := []) cvX12_202 dX12_reads_420 rfl rfl f1 rfl (Nat.le_of_ble_eq_true rfl) (k1 c1 c2)) rfl
    · refine x_aload_n dX12_reads_403 0 rfl ?_
      refine x_bipush (v := 59) dX12_reads_404 (by decide) ?_
      refine EX.sub [0] (K0.v (As := [.int 59]) (st := []) cvX12_198 dX12_reads_406 rfl rfl f1 rfl (Nat.le_of_ble_eq_true rfl) (k2 c1 c2)) rfl
  · refine x_iload_n dX12_reads_366 1 rfl ?_
    refine x_if_le 399 dX12_reads_367 (by decide) (fun c2 => ?_) (fun c2 => ?_)
    · refine x_iload_n dX12_reads_399 1 rfl ?_
      refine x_if_ne 418 dX12_reads_400 (by decide) (fun c3 => ?_) (fun c3 => ?_)
      · refine x_aload_n dX12_reads_418 0 rfl ?_
        refine x_iconst (v := 1) dX12_reads_419 (by decide) ?_
        refine EX.sub [] (K0.v (As := [.int 1]) (st := []) cvX12_202 dX12_reads_420 rfl rfl f1 rfl (Nat.le_of_ble_eq_true rfl) (k3 c1 c2 c3)) rfl
      · refine x_aload_n dX12_reads_403 0 rfl ?_
        refine x_bipush (v := 59) dX12_reads_404 (by decide) ?_
        refine EX.sub [0] (K0.v (As := [.int 59]) (st := []) cvX12_198 dX12_reads_406 rfl rfl f1 rfl (Nat.le_of_ble_eq_true rfl) (k4 c1 c2 c3)) rfl
    · refine x_aload_n dX12_reads_370 0 rfl ?_
      refine x_bipush (v := 29) dX12_reads_371 (by decide) ?_
      refine EX.sub [0, 1, 2] (K0.v (As := [.int 29]) (st := []) cvX12_205 dX12_reads_373 rfl rfl f1 rfl (Nat.le_of_ble_eq_true rfl) (k5 c1 c2)) rfl
set_option maxRecDepth 8000 in
theorem qX12_reads_376 {g : GG} {d : Nat} {M : MM} {P : Option Value → MM → Prop} {i1 : Int32} {i2 : Int32}
    (k1 : E0 g YX12_reads d 379 [(0, .ref 130), (1, .int (i1 + (-1))), (2, .int i2)] [] M P) :
    E0 g YX12_reads d 376 [(0, .ref 130), (1, .int i1), (2, .int i2)] [] M P := by
  refine x_iinc (v := (i1 + (-1))) (lv1 := [(1, .int (i1 + (-1))), (0, .ref 130), (2, .int i2)]) dX12_reads_376 1 rfl rfl (by decide) rfl ?_
  exact EX.sub [1, 0, 2] k1 rfl
set_option maxRecDepth 8000 in
theorem qX12_reads_379 {g : GG} {d : Nat} {M : MM} {P : Option Value → MM → Prop} {i1 : Int32} {i2 : Int32} {la lb pa pb rl : Nat} (L : Lay M la lb pa pb rl)
    (h1 : ¬ (i1 ≤ 0) → vp_in i1 7)
    (k1 : i1 ≤ 0 → K0 g YX12_reads YX12_nextToken d 428 [.ref 130] [(0, .ref 130), (1, .int i1), (2, .int i2)] [] M P)
    (k2 : ¬ (i1 ≤ 0) → ¬ (mi M 142 (i1 : Int32).toNatClampNeg) = 1 → K0 g YX12_reads YX12_nextToken d 428 [.ref 130] [(0, .ref 130), (1, .int i1), (2, .int i2)] [] M P)
    (k3 : ¬ (i1 ≤ 0) → (mi M 142 (i1 : Int32).toNatClampNeg) = 1 → E0 g YX12_reads d 379 [(0, .ref 130), (1, .int (i1 + (-1))), (2, .int i2)] [] M P) :
    E0 g YX12_reads d 379 [(0, .ref 130), (1, .int i1), (2, .int i2)] [] M P := by
  have f1 : ob M 130 12 := L.s rfl (by decide)
  have f2 : mr M 130 21 = some 142 := L.r 137 rfl
  have f3 : ar M 142 1 7 := L.s rfl (by decide)
  refine x_iload_n dX12_reads_379 1 rfl ?_
  refine x_if_le 424 dX12_reads_380 (by decide) (fun c1 => ?_) (fun c1 => ?_)
  · refine x_aload_n dX12_reads_424 0 rfl ?_
    refine EX.sub [0, 1, 2] (K0.v (As := []) (st := []) cvX12_209 dX12_reads_425 rfl rfl f1 rfl (Nat.le_of_ble_eq_true rfl) (k1 c1)) rfl
  · refine x_aload_n dX12_reads_383 0 rfl ?_
    refine x_getR fdX12_44 rfl dX12_reads_384 f1.1 f1.2 f2 ?_
    refine x_iload_n dX12_reads_387 1 rfl ?_
    refine x_iald dX12_reads_388 f3.1 f3.2 (h1 c1) ?_
    refine x_iconst (v := 1) dX12_reads_389 (by decide) ?_
    refine x_ic_ne 424 dX12_reads_390 (by decide) (fun c2 => ?_) (fun c2 => ?_)
    · refine x_aload_n dX12_reads_424 0 rfl ?_
      refine EX.sub [0, 1, 2] (K0.v (As := []) (st := []) cvX12_209 dX12_reads_425 rfl rfl f1 rfl (Nat.le_of_ble_eq_true rfl) (k2 c1 c2)) rfl
    · refine x_iinc (v := (i1 + (-1))) (lv1 := [(1, .int (i1 + (-1))), (0, .ref 130), (2, .int i2)]) dX12_reads_393 1 rfl rfl (by decide) rfl ?_
      refine x_goto 379 dX12_reads_396 (by decide) ?_
      exact EX.sub [1, 0, 2] (k3 c1 c2) rfl
set_option maxRecDepth 8000 in
theorem qX12_reads_409 {g : GG} {d : Nat} {M : MM} {P : Option Value → MM → Prop} {s0 : Int32} {la lb pa pb rl : Nat} (L : Lay M la lb pa pb rl)
    (k1 : s0 = 0 → K0 g YX12_reads YX12_fails d 423 [.ref 130, .int 1] [] [] M P)
    (k2 : ¬ (s0 = 0) → K0 g YX12_reads YX12_nextToken d 416 [.ref 130] [] [] M P) :
    E0 g YX12_reads d 409 [(0, .ref 130)] [.int s0] M P := by
  have f1 : ob M 130 12 := L.s rfl (by decide)
  refine x_if_eq 418 dX12_reads_409 (by decide) (fun c1 => ?_) (fun c1 => ?_)
  · refine x_aload_n dX12_reads_418 0 rfl ?_
    refine x_iconst (v := 1) dX12_reads_419 (by decide) ?_
    refine EX.sub [] (K0.v (As := [.int 1]) (st := []) cvX12_202 dX12_reads_420 rfl rfl f1 rfl (Nat.le_of_ble_eq_true rfl) (k1 c1)) rfl
  · refine x_aload_n dX12_reads_412 0 rfl ?_
    refine EX.sub [] (K0.v (As := []) (st := []) cvX12_209 dX12_reads_413 rfl rfl f1 rfl (Nat.le_of_ble_eq_true rfl) (k2 c1)) rfl
set_option maxRecDepth 8000 in
theorem qX12_reads_416 {g : GG} {d : Nat} {M : MM} {P : Option Value → MM → Prop} 
    (k1 : P (some (.int 1)) M) :
    E0 g YX12_reads d 416 [] [] M P := by
  refine x_iconst (v := 1) dX12_reads_416 (by decide) ?_
  exact x_zret rfl dX12_reads_417 rfl (Nat.le_refl _) (Nat.le_refl _) (k1)
set_option maxRecDepth 8000 in
theorem qX12_reads_423 {g : GG} {d : Nat} {M : MM} {P : Option Value → MM → Prop} {s0 : Int32}
    (h1 : s0 &&& 1 = s0)
    (k1 : P (some (.int s0)) M) :
    E0 g YX12_reads d 423 [] [.int s0] M P := by
  exact x_zret rfl dX12_reads_423 (h1) (Nat.le_refl _) (Nat.le_refl _) (k1)
set_option maxRecDepth 8000 in
theorem qX12_reads_428 {g : GG} {d : Nat} {M : MM} {P : Option Value → MM → Prop} {i1 : Int32} {i2 : Int32}
    (k1 : E0 g YX12_reads d 11 [(0, .ref 130), (1, .int i1), (2, .int i2)] [] M P) :
    E0 g YX12_reads d 428 [(0, .ref 130), (1, .int i1), (2, .int i2)] [] M P := by
  refine x_goto 11 dX12_reads_428 (by decide) ?_
  exact EX.sub [0, 1, 2] k1 rfl
set_option maxRecDepth 8000 in
theorem qX12_opens_0 {g : GG} {d : Nat} {M : MM} {P : Option Value → MM → Prop} {i1 : Int32} {M1 : MM} {M2 : MM} {M3 : MM} {M4 : MM} {M5 : MM} {la lb pa pb rl : Nat} (L : Lay M la lb pa pb rl)
    (qM1 : M1 = wi M 145 (i1 : Int32).toNatClampNeg 0)
    (qM2 : M2 = wi M1 147 (i1 : Int32).toNatClampNeg 0)
    (qM3 : M3 = wi M2 148 (i1 : Int32).toNatClampNeg 0)
    (qM4 : M4 = wi M3 149 (i1 : Int32).toNatClampNeg 20)
    (qM5 : M5 = wi M4 151 (i1 : Int32).toNatClampNeg 0)
    (h1 : vp_in i1 7)
    (h2 : vp_in i1 7)
    (h3 : vp_in i1 7)
    (h4 : vp_in i1 7)
    (h5 : vp_in i1 7)
    (k1 : P none M5) :
    E0 g YX12_opens d 0 [(0, .ref 130), (1, .int i1)] [] M P := by
  have f1 : ob M 130 12 := L.s rfl (by decide)
  have f2 : mr M 130 24 = some 145 := L.r 140 rfl
  have f3 : ar M 145 1 7 := L.s rfl (by decide)
  have f4 : mr M 130 26 = some 147 := L.r 142 rfl
  have f5 : ar M 147 1 7 := L.s rfl (by decide)
  have f6 : mr M 130 27 = some 148 := L.r 143 rfl
  have f7 : ar M 148 1 7 := L.s rfl (by decide)
  have f8 : mr M 130 28 = some 149 := L.r 144 rfl
  have f9 : ar M 149 1 7 := L.s rfl (by decide)
  have f10 : mr M 130 30 = some 151 := L.r 146 rfl
  have f11 : ar M 151 1 7 := L.s rfl (by decide)
  subst qM1 qM2 qM3 qM4 qM5
  refine x_aload_n dX12_opens_0 0 rfl ?_
  refine x_getR fdX12_54 rfl dX12_opens_1 f1.1 f1.2 f2 ?_
  refine x_iload_n dX12_opens_4 1 rfl ?_
  refine x_iconst (v := 0) dX12_opens_5 (by decide) ?_
  refine x_iast dX12_opens_6 f3.1 f3.2 (h1) ?_
  refine x_aload_n dX12_opens_7 0 rfl ?_
  refine x_getR fdX12_60 rfl dX12_opens_8 f1.1 f1.2 f4 ?_
  refine x_iload_n dX12_opens_11 1 rfl ?_
  refine x_iconst (v := 0) dX12_opens_12 (by decide) ?_
  refine x_iast dX12_opens_13 f5.1 f5.2 (h2) ?_
  refine x_aload_n dX12_opens_14 0 rfl ?_
  refine x_getR fdX12_63 rfl dX12_opens_15 f1.1 f1.2 f6 ?_
  refine x_iload_n dX12_opens_18 1 rfl ?_
  refine x_iconst (v := 0) dX12_opens_19 (by decide) ?_
  refine x_iast dX12_opens_20 f7.1 f7.2 (h3) ?_
  refine x_aload_n dX12_opens_21 0 rfl ?_
  refine x_getR fdX12_66 rfl dX12_opens_22 f1.1 f1.2 f8 ?_
  refine x_iload_n dX12_opens_25 1 rfl ?_
  refine x_bipush (v := 20) dX12_opens_26 (by decide) ?_
  refine x_iast dX12_opens_28 f9.1 f9.2 (h4) ?_
  refine x_aload_n dX12_opens_29 0 rfl ?_
  refine x_getR fdX12_72 rfl dX12_opens_30 f1.1 f1.2 f10 ?_
  refine x_iload_n dX12_opens_33 1 rfl ?_
  refine x_iconst (v := 0) dX12_opens_34 (by decide) ?_
  refine x_iast dX12_opens_35 f11.1 f11.2 (h5) ?_
  exact x_vret rfl dX12_opens_36 (Nat.le_refl _) (Nat.le_refl _) (k1)
set_option maxRecDepth 8000 in
theorem qX12_sums_0 {g : GG} {d : Nat} {M : MM} {P : Option Value → MM → Prop} {i1 : Int32} {M1 : MM} {M2 : MM} {M3 : MM} {M4 : MM} {la lb pa pb rl : Nat} (L : Lay M la lb pa pb rl)
    (qM1 : M1 = wi M 148 (i1 : Int32).toNatClampNeg ((mi M 148 (i1 : Int32).toNatClampNeg) + (mi M 150 (i1 : Int32).toNatClampNeg)))
    (qM2 : M2 = wi M1 151 (i1 : Int32).toNatClampNeg 0)
    (qM3 : M3 = wi M 148 (i1 : Int32).toNatClampNeg ((mi M 148 (i1 : Int32).toNatClampNeg) - (mi M 150 (i1 : Int32).toNatClampNeg)))
    (qM4 : M4 = wi M3 151 (i1 : Int32).toNatClampNeg 0)
    (h1 : vp_in i1 7)
    (h2 : ¬ (mi M 149 (i1 : Int32).toNatClampNeg) = 21 → vp_in i1 7)
    (h3 : ¬ (mi M 149 (i1 : Int32).toNatClampNeg) = 21 → vp_in i1 7)
    (h4 : ¬ (mi M 149 (i1 : Int32).toNatClampNeg) = 21 → vp_in i1 7)
    (h5 : (mi M 149 (i1 : Int32).toNatClampNeg) = 21 → vp_in i1 7)
    (h6 : (mi M 149 (i1 : Int32).toNatClampNeg) = 21 → vp_in i1 7)
    (h7 : (mi M 149 (i1 : Int32).toNatClampNeg) = 21 → vp_in i1 7)
    (k1 : ¬ (mi M 149 (i1 : Int32).toNatClampNeg) = 21 → P none M2)
    (k2 : (mi M 149 (i1 : Int32).toNatClampNeg) = 21 → P none M4) :
    E0 g YX12_sums d 0 [(0, .ref 130), (1, .int i1)] [] M P := by
  have f1 : ob M 130 12 := L.s rfl (by decide)
  have f2 : mr M 130 27 = some 148 := L.r 143 rfl
  have f3 : mr M 130 28 = some 149 := L.r 144 rfl
  have f4 : ar M 149 1 7 := L.s rfl (by decide)
  have f5 : ar M 148 1 7 := L.s rfl (by decide)
  have f6 : mr M 130 29 = some 150 := L.r 145 rfl
  have f7 : ar M 150 1 7 := L.s rfl (by decide)
  have f8 : mr M 130 30 = some 151 := L.r 146 rfl
  have f9 : ar M 151 1 7 := L.s rfl (by decide)
  subst qM1 qM2 qM3 qM4
  refine x_aload_n dX12_sums_0 0 rfl ?_
  refine x_getR fdX12_63 rfl dX12_sums_1 f1.1 f1.2 f2 ?_
  refine x_iload_n dX12_sums_4 1 rfl ?_
  refine x_aload_n dX12_sums_5 0 rfl ?_
  refine x_getR fdX12_66 rfl dX12_sums_6 f1.1 f1.2 f3 ?_
  refine x_iload_n dX12_sums_9 1 rfl ?_
  refine x_iald dX12_sums_10 f4.1 f4.2 (h1) ?_
  refine x_bipush (v := 21) dX12_sums_11 (by decide) ?_
  refine x_ic_ne 32 dX12_sums_13 (by decide) (fun c1 => ?_) (fun c1 => ?_)
  · refine x_aload_n dX12_sums_32 0 rfl ?_
    refine x_getR fdX12_63 rfl dX12_sums_33 f1.1 f1.2 f2 ?_
    refine x_iload_n dX12_sums_36 1 rfl ?_
    refine x_iald dX12_sums_37 f5.1 f5.2 (h2 c1) ?_
    refine x_aload_n dX12_sums_38 0 rfl ?_
    refine x_getR fdX12_69 rfl dX12_sums_39 f1.1 f1.2 f6 ?_
    refine x_iload_n dX12_sums_42 1 rfl ?_
    refine x_iald dX12_sums_43 f7.1 f7.2 (h3 c1) ?_
    refine x_iadd dX12_sums_44 ?_
    refine x_iast dX12_sums_45 f5.1 f5.2 (h2 c1) ?_
    refine x_aload_n dX12_sums_46 0 rfl ?_
    refine x_getR fdX12_72 rfl dX12_sums_47 f1.1 f1.2 f8 ?_
    refine x_iload_n dX12_sums_50 1 rfl ?_
    refine x_iconst (v := 0) dX12_sums_51 (by decide) ?_
    refine x_iast dX12_sums_52 f9.1 f9.2 (h4 c1) ?_
    exact x_vret rfl dX12_sums_53 (Nat.le_refl _) (Nat.le_refl _) (k1 c1)
  · refine x_aload_n dX12_sums_16 0 rfl ?_
    refine x_getR fdX12_63 rfl dX12_sums_17 f1.1 f1.2 f2 ?_
    refine x_iload_n dX12_sums_20 1 rfl ?_
    refine x_iald dX12_sums_21 f5.1 f5.2 (h5 c1) ?_
    refine x_aload_n dX12_sums_22 0 rfl ?_
    refine x_getR fdX12_69 rfl dX12_sums_23 f1.1 f1.2 f6 ?_
    refine x_iload_n dX12_sums_26 1 rfl ?_
    refine x_iald dX12_sums_27 f7.1 f7.2 (h6 c1) ?_
    refine x_isub dX12_sums_28 ?_
    refine x_goto 45 dX12_sums_29 (by decide) ?_
    refine x_iast dX12_sums_45 f5.1 f5.2 (h5 c1) ?_
    refine x_aload_n dX12_sums_46 0 rfl ?_
    refine x_getR fdX12_72 rfl dX12_sums_47 f1.1 f1.2 f8 ?_
    refine x_iload_n dX12_sums_50 1 rfl ?_
    refine x_iconst (v := 0) dX12_sums_51 (by decide) ?_
    refine x_iast dX12_sums_52 f9.1 f9.2 (h7 c1) ?_
    exact x_vret rfl dX12_sums_53 (Nat.le_refl _) (Nat.le_refl _) (k2 c1)
set_option maxRecDepth 8000 in
theorem qX12_tests_0 {g : GG} {d : Nat} {M : MM} {P : Option Value → MM → Prop} {i1 : Int32} {la lb pa pb rl : Nat} (L : Lay M la lb pa pb rl)
    (k1 : K0 g YX12_tests YX12_sums d 5 [.ref 130, .int i1] [(0, .ref 130), (1, .int i1)] [] M P) :
    E0 g YX12_tests d 0 [(0, .ref 130), (1, .int i1)] [] M P := by
  have f1 : ob M 130 12 := L.s rfl (by decide)
  refine x_aload_n dX12_tests_0 0 rfl ?_
  refine x_iload_n dX12_tests_1 1 rfl ?_
  refine EX.sub [0, 1] (K0.v (As := [.int i1]) (st := []) cvX12_216 dX12_tests_2 rfl rfl f1 rfl (Nat.le_of_ble_eq_true rfl) (k1)) rfl
set_option maxRecDepth 8000 in
theorem qX12_tests_5 {g : GG} {d : Nat} {M : MM} {P : Option Value → MM → Prop} {i1 : Int32} {la lb pa pb rl : Nat} (L : Lay M la lb pa pb rl)
    (h1 : vp_in i1 7)
    (h2 : vp_in i1 7)
    (h3 : (mi M 147 (i1 : Int32).toNatClampNeg) = 24 → vp_in i1 7)
    (h4 : (mi M 147 (i1 : Int32).toNatClampNeg) = 24 → vp_in i1 7)
    (k1 : ¬ (mi M 147 (i1 : Int32).toNatClampNeg) = 24 → E0 g YX12_tests d 44 [(0, .ref 130), (1, .int i1), (2, .int (mi M 148 (i1 : Int32).toNatClampNeg))] [] M P)
    (k2 : (mi M 147 (i1 : Int32).toNatClampNeg) = 24 → (mi M 148 (i1 : Int32).toNatClampNeg) ≤ (mi M 146 (i1 : Int32).toNatClampNeg) → E0 g YX12_tests d 43 [(0, .ref 130), (1, .int i1)] [.int 0] M P)
    (k3 : (mi M 147 (i1 : Int32).toNatClampNeg) = 24 → ¬ ((mi M 148 (i1 : Int32).toNatClampNeg) ≤ (mi M 146 (i1 : Int32).toNatClampNeg)) → E0 g YX12_tests d 43 [(0, .ref 130), (1, .int i1)] [.int 1] M P) :
    E0 g YX12_tests d 5 [(0, .ref 130), (1, .int i1)] [] M P := by
  have f1 : ob M 130 12 := L.s rfl (by decide)
  have f2 : mr M 130 27 = some 148 := L.r 143 rfl
  have f3 : ar M 148 1 7 := L.s rfl (by decide)
  have f4 : mr M 130 26 = some 147 := L.r 142 rfl
  have f5 : ar M 147 1 7 := L.s rfl (by decide)
  have f6 : mr M 130 25 = some 146 := L.r 141 rfl
  have f7 : ar M 146 1 7 := L.s rfl (by decide)
  refine x_aload_n dX12_tests_5 0 rfl ?_
  refine x_getR fdX12_63 rfl dX12_tests_6 f1.1 f1.2 f2 ?_
  refine x_iload_n dX12_tests_9 1 rfl ?_
  refine x_iald dX12_tests_10 f3.1 f3.2 (h1) ?_
  refine x_istore_n (lv1 := [(2, .int (mi M 148 (i1 : Int32).toNatClampNeg)), (0, .ref 130), (1, .int i1)]) dX12_tests_11 (by decide) rfl ?_
  refine x_aload_n dX12_tests_12 1 rfl ?_
  refine x_getR fdX12_60 rfl dX12_tests_13 f1.1 f1.2 f4 ?_
  refine x_iload_n dX12_tests_16 2 rfl ?_
  refine x_iald dX12_tests_17 f5.1 f5.2 (h2) ?_
  refine x_bipush (v := 24) dX12_tests_18 (by decide) ?_
  refine x_ic_ne 44 dX12_tests_20 (by decide) (fun c1 => ?_) (fun c1 => ?_)
  · exact EX.sub [1, 2, 0] (k1 c1) rfl
  · refine x_aload_n dX12_tests_23 1 rfl ?_
    refine x_getR fdX12_57 rfl dX12_tests_24 f1.1 f1.2 f6 ?_
    refine x_iload_n dX12_tests_27 2 rfl ?_
    refine x_iald dX12_tests_28 f7.1 f7.2 (h3 c1) ?_
    refine x_aload_n dX12_tests_29 1 rfl ?_
    refine x_getR fdX12_63 rfl dX12_tests_30 f1.1 f1.2 f2 ?_
    refine x_iload_n dX12_tests_33 2 rfl ?_
    refine x_iald dX12_tests_34 f3.1 f3.2 (h4 c1) ?_
    refine x_ic_ge 42 dX12_tests_35 (by decide) (fun c2 => ?_) (fun c2 => ?_)
    · refine x_iconst (v := 0) dX12_tests_42 (by decide) ?_
      exact EX.sub [1, 2] (k2 c1 c2) rfl
    · refine x_iconst (v := 1) dX12_tests_38 (by decide) ?_
      refine x_goto 43 dX12_tests_39 (by decide) ?_
      exact EX.sub [1, 2] (k3 c1 c2) rfl
set_option maxRecDepth 8000 in
theorem qX12_tests_43 {g : GG} {d : Nat} {M : MM} {P : Option Value → MM → Prop} {i1 : Int32} {s0 : Int32}
    (k1 : E0 g YX12_tests d 44 [(0, .ref 130), (1, .int i1), (2, .int s0)] [] M P) :
    E0 g YX12_tests d 43 [(0, .ref 130), (1, .int i1)] [.int s0] M P := by
  refine x_istore_n (lv1 := [(2, .int s0), (0, .ref 130), (1, .int i1)]) dX12_tests_43 (by decide) rfl ?_
  exact EX.sub [1, 2, 0] k1 rfl
set_option maxRecDepth 8000 in
theorem qX12_tests_44 {g : GG} {d : Nat} {M : MM} {P : Option Value → MM → Prop} {i1 : Int32} {i2 : Int32} {la lb pa pb rl : Nat} (L : Lay M la lb pa pb rl)
    (h1 : vp_in i1 7)
    (h2 : (mi M 147 (i1 : Int32).toNatClampNeg) = 25 → vp_in i1 7)
    (h3 : (mi M 147 (i1 : Int32).toNatClampNeg) = 25 → vp_in i1 7)
    (k1 : ¬ (mi M 147 (i1 : Int32).toNatClampNeg) = 25 → E0 g YX12_tests d 76 [(0, .ref 130), (1, .int i1), (2, .int i2)] [] M P)
    (k2 : (mi M 147 (i1 : Int32).toNatClampNeg) = 25 → ¬ (mi M 146 (i1 : Int32).toNatClampNeg) = (mi M 148 (i1 : Int32).toNatClampNeg) → E0 g YX12_tests d 75 [(0, .ref 130), (1, .int i1)] [.int 0] M P)
    (k3 : (mi M 147 (i1 : Int32).toNatClampNeg) = 25 → (mi M 146 (i1 : Int32).toNatClampNeg) = (mi M 148 (i1 : Int32).toNatClampNeg) → E0 g YX12_tests d 75 [(0, .ref 130), (1, .int i1)] [.int 1] M P) :
    E0 g YX12_tests d 44 [(0, .ref 130), (1, .int i1), (2, .int i2)] [] M P := by
  have f1 : ob M 130 12 := L.s rfl (by decide)
  have f2 : mr M 130 26 = some 147 := L.r 142 rfl
  have f3 : ar M 147 1 7 := L.s rfl (by decide)
  have f4 : mr M 130 25 = some 146 := L.r 141 rfl
  have f5 : ar M 146 1 7 := L.s rfl (by decide)
  have f6 : mr M 130 27 = some 148 := L.r 143 rfl
  have f7 : ar M 148 1 7 := L.s rfl (by decide)
  refine x_aload_n dX12_tests_44 0 rfl ?_
  refine x_getR fdX12_60 rfl dX12_tests_45 f1.1 f1.2 f2 ?_
  refine x_iload_n dX12_tests_48 1 rfl ?_
  refine x_iald dX12_tests_49 f3.1 f3.2 (h1) ?_
  refine x_bipush (v := 25) dX12_tests_50 (by decide) ?_
  refine x_ic_ne 76 dX12_tests_52 (by decide) (fun c1 => ?_) (fun c1 => ?_)
  · exact EX.sub [0, 1, 2] (k1 c1) rfl
  · refine x_aload_n dX12_tests_55 0 rfl ?_
    refine x_getR fdX12_57 rfl dX12_tests_56 f1.1 f1.2 f4 ?_
    refine x_iload_n dX12_tests_59 1 rfl ?_
    refine x_iald dX12_tests_60 f5.1 f5.2 (h2 c1) ?_
    refine x_aload_n dX12_tests_61 0 rfl ?_
    refine x_getR fdX12_63 rfl dX12_tests_62 f1.1 f1.2 f6 ?_
    refine x_iload_n dX12_tests_65 1 rfl ?_
    refine x_iald dX12_tests_66 f7.1 f7.2 (h3 c1) ?_
    refine x_ic_ne 74 dX12_tests_67 (by decide) (fun c2 => ?_) (fun c2 => ?_)
    · refine x_iconst (v := 0) dX12_tests_74 (by decide) ?_
      exact EX.sub [0, 1] (k2 c1 c2) rfl
    · refine x_iconst (v := 1) dX12_tests_70 (by decide) ?_
      refine x_goto 75 dX12_tests_71 (by decide) ?_
      exact EX.sub [0, 1] (k3 c1 c2) rfl
set_option maxRecDepth 8000 in
theorem qX12_tests_75 {g : GG} {d : Nat} {M : MM} {P : Option Value → MM → Prop} {i1 : Int32} {s0 : Int32}
    (k1 : E0 g YX12_tests d 76 [(0, .ref 130), (1, .int i1), (2, .int s0)] [] M P) :
    E0 g YX12_tests d 75 [(0, .ref 130), (1, .int i1)] [.int s0] M P := by
  refine x_istore_n (lv1 := [(2, .int s0), (0, .ref 130), (1, .int i1)]) dX12_tests_75 (by decide) rfl ?_
  exact EX.sub [1, 2, 0] k1 rfl
set_option maxRecDepth 8000 in
theorem qX12_tests_76 {g : GG} {d : Nat} {M : MM} {P : Option Value → MM → Prop} {i1 : Int32} {i2 : Int32} {M1 : MM} {M2 : MM} {M3 : MM} {M4 : MM} {M5 : MM} {M6 : MM} {M7 : MM} {M8 : MM} {M9 : MM} {M10 : MM} {M11 : MM} {M12 : MM} {M13 : MM} {M14 : MM} {M15 : MM} {M16 : MM} {M17 : MM} {M18 : MM} {M19 : MM} {M20 : MM} {M21 : MM} {M22 : MM} {M23 : MM} {M24 : MM} {M25 : MM} {M26 : MM} {M27 : MM} {M28 : MM} {la lb pa pb rl : Nat} (L : Lay M la lb pa pb rl)
    (qM1 : M1 = wi M 144 (i1 : Int32).toNatClampNeg i2)
    (qM2 : M2 = wi M1 147 (i1 : Int32).toNatClampNeg 0)
    (qM3 : M3 = wi M2 148 (i1 : Int32).toNatClampNeg 0)
    (qM4 : M4 = wi M3 149 (i1 : Int32).toNatClampNeg 20)
    (qM5 : M5 = wi M 144 (i1 : Int32).toNatClampNeg 1)
    (qM6 : M6 = wi M5 147 (i1 : Int32).toNatClampNeg 0)
    (qM7 : M7 = wi M6 148 (i1 : Int32).toNatClampNeg 0)
    (qM8 : M8 = wi M7 149 (i1 : Int32).toNatClampNeg 20)
    (qM9 : M9 = wi M 144 (i1 : Int32).toNatClampNeg 0)
    (qM10 : M10 = wi M9 147 (i1 : Int32).toNatClampNeg 0)
    (qM11 : M11 = wi M10 148 (i1 : Int32).toNatClampNeg 0)
    (qM12 : M12 = wi M11 149 (i1 : Int32).toNatClampNeg 20)
    (qM13 : M13 = wi M 144 (i1 : Int32).toNatClampNeg 1)
    (qM14 : M14 = wi M13 147 (i1 : Int32).toNatClampNeg 0)
    (qM15 : M15 = wi M14 148 (i1 : Int32).toNatClampNeg 0)
    (qM16 : M16 = wi M15 149 (i1 : Int32).toNatClampNeg 20)
    (qM17 : M17 = wi M 144 (i1 : Int32).toNatClampNeg 1)
    (qM18 : M18 = wi M17 147 (i1 : Int32).toNatClampNeg 0)
    (qM19 : M19 = wi M18 148 (i1 : Int32).toNatClampNeg 0)
    (qM20 : M20 = wi M19 149 (i1 : Int32).toNatClampNeg 20)
    (qM21 : M21 = wi M 144 (i1 : Int32).toNatClampNeg 1)
    (qM22 : M22 = wi M21 147 (i1 : Int32).toNatClampNeg 0)
    (qM23 : M23 = wi M22 148 (i1 : Int32).toNatClampNeg 0)
    (qM24 : M24 = wi M23 149 (i1 : Int32).toNatClampNeg 20)
    (qM25 : M25 = wi M 144 (i1 : Int32).toNatClampNeg 1)
    (qM26 : M26 = wi M25 147 (i1 : Int32).toNatClampNeg 0)
    (qM27 : M27 = wi M26 148 (i1 : Int32).toNatClampNeg 0)
    (qM28 : M28 = wi M27 149 (i1 : Int32).toNatClampNeg 20)
    (h1 : vp_in i1 7)
    (h2 : ¬ (mi M 145 (i1 : Int32).toNatClampNeg) = 26 → vp_in i1 7)
    (h3 : ¬ (mi M 145 (i1 : Int32).toNatClampNeg) = 26 → ¬ (mi M 145 (i1 : Int32).toNatClampNeg) = 27 → vp_in i1 7)
    (h4 : ¬ (mi M 145 (i1 : Int32).toNatClampNeg) = 26 → ¬ (mi M 145 (i1 : Int32).toNatClampNeg) = 27 → vp_in i1 7)
    (h5 : ¬ (mi M 145 (i1 : Int32).toNatClampNeg) = 26 → ¬ (mi M 145 (i1 : Int32).toNatClampNeg) = 27 → vp_in i1 7)
    (h6 : ¬ (mi M 145 (i1 : Int32).toNatClampNeg) = 26 → ¬ (mi M 145 (i1 : Int32).toNatClampNeg) = 27 → vp_in i1 7)
    (h7 : ¬ (mi M 145 (i1 : Int32).toNatClampNeg) = 26 → (mi M 145 (i1 : Int32).toNatClampNeg) = 27 → vp_in i1 7)
    (h8 : ¬ (mi M 145 (i1 : Int32).toNatClampNeg) = 26 → (mi M 145 (i1 : Int32).toNatClampNeg) = 27 → ¬ (mi M 144 (i1 : Int32).toNatClampNeg) = 0 → vp_in i1 7)
    (h9 : ¬ (mi M 145 (i1 : Int32).toNatClampNeg) = 26 → (mi M 145 (i1 : Int32).toNatClampNeg) = 27 → ¬ (mi M 144 (i1 : Int32).toNatClampNeg) = 0 → vp_in i1 7)
    (h10 : ¬ (mi M 145 (i1 : Int32).toNatClampNeg) = 26 → (mi M 145 (i1 : Int32).toNatClampNeg) = 27 → ¬ (mi M 144 (i1 : Int32).toNatClampNeg) = 0 → vp_in i1 7)
    (h11 : ¬ (mi M 145 (i1 : Int32).toNatClampNeg) = 26 → (mi M 145 (i1 : Int32).toNatClampNeg) = 27 → ¬ (mi M 144 (i1 : Int32).toNatClampNeg) = 0 → vp_in i1 7)
    (h12 : ¬ (mi M 145 (i1 : Int32).toNatClampNeg) = 26 → (mi M 145 (i1 : Int32).toNatClampNeg) = 27 → (mi M 144 (i1 : Int32).toNatClampNeg) = 0 → i2 = 0 → vp_in i1 7)
    (h13 : ¬ (mi M 145 (i1 : Int32).toNatClampNeg) = 26 → (mi M 145 (i1 : Int32).toNatClampNeg) = 27 → (mi M 144 (i1 : Int32).toNatClampNeg) = 0 → i2 = 0 → vp_in i1 7)
    (h14 : ¬ (mi M 145 (i1 : Int32).toNatClampNeg) = 26 → (mi M 145 (i1 : Int32).toNatClampNeg) = 27 → (mi M 144 (i1 : Int32).toNatClampNeg) = 0 → i2 = 0 → vp_in i1 7)
    (h15 : ¬ (mi M 145 (i1 : Int32).toNatClampNeg) = 26 → (mi M 145 (i1 : Int32).toNatClampNeg) = 27 → (mi M 144 (i1 : Int32).toNatClampNeg) = 0 → i2 = 0 → vp_in i1 7)
    (h16 : ¬ (mi M 145 (i1 : Int32).toNatClampNeg) = 26 → (mi M 145 (i1 : Int32).toNatClampNeg) = 27 → (mi M 144 (i1 : Int32).toNatClampNeg) = 0 → ¬ (i2 = 0) → vp_in i1 7)
    (h17 : ¬ (mi M 145 (i1 : Int32).toNatClampNeg) = 26 → (mi M 145 (i1 : Int32).toNatClampNeg) = 27 → (mi M 144 (i1 : Int32).toNatClampNeg) = 0 → ¬ (i2 = 0) → vp_in i1 7)
    (h18 : ¬ (mi M 145 (i1 : Int32).toNatClampNeg) = 26 → (mi M 145 (i1 : Int32).toNatClampNeg) = 27 → (mi M 144 (i1 : Int32).toNatClampNeg) = 0 → ¬ (i2 = 0) → vp_in i1 7)
    (h19 : ¬ (mi M 145 (i1 : Int32).toNatClampNeg) = 26 → (mi M 145 (i1 : Int32).toNatClampNeg) = 27 → (mi M 144 (i1 : Int32).toNatClampNeg) = 0 → ¬ (i2 = 0) → vp_in i1 7)
    (h20 : (mi M 145 (i1 : Int32).toNatClampNeg) = 26 → vp_in i1 7)
    (h21 : (mi M 145 (i1 : Int32).toNatClampNeg) = 26 → ¬ ((mi M 144 (i1 : Int32).toNatClampNeg) = 0) → ¬ (i2 = 0) → vp_in i1 7)
    (h22 : (mi M 145 (i1 : Int32).toNatClampNeg) = 26 → ¬ ((mi M 144 (i1 : Int32).toNatClampNeg) = 0) → ¬ (i2 = 0) → ¬ (mi M 145 (i1 : Int32).toNatClampNeg) = 27 → vp_in i1 7)
    (h23 : (mi M 145 (i1 : Int32).toNatClampNeg) = 26 → ¬ ((mi M 144 (i1 : Int32).toNatClampNeg) = 0) → ¬ (i2 = 0) → ¬ (mi M 145 (i1 : Int32).toNatClampNeg) = 27 → vp_in i1 7)
    (h24 : (mi M 145 (i1 : Int32).toNatClampNeg) = 26 → ¬ ((mi M 144 (i1 : Int32).toNatClampNeg) = 0) → ¬ (i2 = 0) → ¬ (mi M 145 (i1 : Int32).toNatClampNeg) = 27 → vp_in i1 7)
    (h25 : (mi M 145 (i1 : Int32).toNatClampNeg) = 26 → ¬ ((mi M 144 (i1 : Int32).toNatClampNeg) = 0) → ¬ (i2 = 0) → ¬ (mi M 145 (i1 : Int32).toNatClampNeg) = 27 → vp_in i1 7)
    (h26 : (mi M 145 (i1 : Int32).toNatClampNeg) = 26 → ¬ ((mi M 144 (i1 : Int32).toNatClampNeg) = 0) → ¬ (i2 = 0) → (mi M 145 (i1 : Int32).toNatClampNeg) = 27 → vp_in i1 7)
    (h27 : (mi M 145 (i1 : Int32).toNatClampNeg) = 26 → ¬ ((mi M 144 (i1 : Int32).toNatClampNeg) = 0) → ¬ (i2 = 0) → (mi M 145 (i1 : Int32).toNatClampNeg) = 27 → ¬ (mi M 144 (i1 : Int32).toNatClampNeg) = 0 → vp_in i1 7)
    (h28 : (mi M 145 (i1 : Int32).toNatClampNeg) = 26 → ¬ ((mi M 144 (i1 : Int32).toNatClampNeg) = 0) → ¬ (i2 = 0) → (mi M 145 (i1 : Int32).toNatClampNeg) = 27 → ¬ (mi M 144 (i1 : Int32).toNatClampNeg) = 0 → vp_in i1 7)
    (h29 : (mi M 145 (i1 : Int32).toNatClampNeg) = 26 → ¬ ((mi M 144 (i1 : Int32).toNatClampNeg) = 0) → ¬ (i2 = 0) → (mi M 145 (i1 : Int32).toNatClampNeg) = 27 → ¬ (mi M 144 (i1 : Int32).toNatClampNeg) = 0 → vp_in i1 7)
    (h30 : (mi M 145 (i1 : Int32).toNatClampNeg) = 26 → ¬ ((mi M 144 (i1 : Int32).toNatClampNeg) = 0) → ¬ (i2 = 0) → (mi M 145 (i1 : Int32).toNatClampNeg) = 27 → ¬ (mi M 144 (i1 : Int32).toNatClampNeg) = 0 → vp_in i1 7)
    (h31 : (mi M 145 (i1 : Int32).toNatClampNeg) = 26 → ¬ ((mi M 144 (i1 : Int32).toNatClampNeg) = 0) → ¬ (i2 = 0) → (mi M 145 (i1 : Int32).toNatClampNeg) = 27 → (mi M 144 (i1 : Int32).toNatClampNeg) = 0 → vp_in i1 7)
    (h32 : (mi M 145 (i1 : Int32).toNatClampNeg) = 26 → ¬ ((mi M 144 (i1 : Int32).toNatClampNeg) = 0) → ¬ (i2 = 0) → (mi M 145 (i1 : Int32).toNatClampNeg) = 27 → (mi M 144 (i1 : Int32).toNatClampNeg) = 0 → vp_in i1 7)
    (h33 : (mi M 145 (i1 : Int32).toNatClampNeg) = 26 → ¬ ((mi M 144 (i1 : Int32).toNatClampNeg) = 0) → ¬ (i2 = 0) → (mi M 145 (i1 : Int32).toNatClampNeg) = 27 → (mi M 144 (i1 : Int32).toNatClampNeg) = 0 → vp_in i1 7)
    (h34 : (mi M 145 (i1 : Int32).toNatClampNeg) = 26 → ¬ ((mi M 144 (i1 : Int32).toNatClampNeg) = 0) → ¬ (i2 = 0) → (mi M 145 (i1 : Int32).toNatClampNeg) = 27 → (mi M 144 (i1 : Int32).toNatClampNeg) = 0 → vp_in i1 7)
    (k1 : ¬ (mi M 145 (i1 : Int32).toNatClampNeg) = 26 → ¬ (mi M 145 (i1 : Int32).toNatClampNeg) = 27 → P none M4)
    (k2 : ¬ (mi M 145 (i1 : Int32).toNatClampNeg) = 26 → (mi M 145 (i1 : Int32).toNatClampNeg) = 27 → ¬ (mi M 144 (i1 : Int32).toNatClampNeg) = 0 → P none M8)
    (k3 : ¬ (mi M 145 (i1 : Int32).toNatClampNeg) = 26 → (mi M 145 (i1 : Int32).toNatClampNeg) = 27 → (mi M 144 (i1 : Int32).toNatClampNeg) = 0 → i2 = 0 → P none M12)
    (k4 : ¬ (mi M 145 (i1 : Int32).toNatClampNeg) = 26 → (mi M 145 (i1 : Int32).toNatClampNeg) = 27 → (mi M 144 (i1 : Int32).toNatClampNeg) = 0 → ¬ (i2 = 0) → P none M16)
    (k5 : (mi M 145 (i1 : Int32).toNatClampNeg) = 26 → (mi M 144 (i1 : Int32).toNatClampNeg) = 0 → E0 g YX12_tests d 104 [(0, .ref 130), (1, .int i1)] [] M P)
    (k6 : (mi M 145 (i1 : Int32).toNatClampNeg) = 26 → ¬ ((mi M 144 (i1 : Int32).toNatClampNeg) = 0) → i2 = 0 → E0 g YX12_tests d 104 [(0, .ref 130), (1, .int i1)] [] M P)
    (k7 : (mi M 145 (i1 : Int32).toNatClampNeg) = 26 → ¬ ((mi M 144 (i1 : Int32).toNatClampNeg) = 0) → ¬ (i2 = 0) → ¬ (mi M 145 (i1 : Int32).toNatClampNeg) = 27 → P none M20)
    (k8 : (mi M 145 (i1 : Int32).toNatClampNeg) = 26 → ¬ ((mi M 144 (i1 : Int32).toNatClampNeg) = 0) → ¬ (i2 = 0) → (mi M 145 (i1 : Int32).toNatClampNeg) = 27 → ¬ (mi M 144 (i1 : Int32).toNatClampNeg) = 0 → P none M24)
    (k9 : (mi M 145 (i1 : Int32).toNatClampNeg) = 26 → ¬ ((mi M 144 (i1 : Int32).toNatClampNeg) = 0) → ¬ (i2 = 0) → (mi M 145 (i1 : Int32).toNatClampNeg) = 27 → (mi M 144 (i1 : Int32).toNatClampNeg) = 0 → P none M28) :
    E0 g YX12_tests d 76 [(0, .ref 130), (1, .int i1), (2, .int i2)] [] M P := by
  have f1 : ob M 130 12 := L.s rfl (by decide)
  have f2 : mr M 130 24 = some 145 := L.r 140 rfl
  have f3 : ar M 145 1 7 := L.s rfl (by decide)
  have f4 : mr M 130 23 = some 144 := L.r 139 rfl
  have f5 : ar M 144 1 7 := L.s rfl (by decide)
  have f6 : mr M 130 26 = some 147 := L.r 142 rfl
  have f7 : ar M 147 1 7 := L.s rfl (by decide)
  have f8 : mr M 130 27 = some 148 := L.r 143 rfl
  have f9 : ar M 148 1 7 := L.s rfl (by decide)
  have f10 : mr M 130 28 = some 149 := L.r 144 rfl
  have f11 : ar M 149 1 7 := L.s rfl (by decide)
  subst qM1 qM2 qM3 qM4 qM5 qM6 qM7 qM8 qM9 qM10 qM11 qM12 qM13 qM14 qM15 qM16 qM17 qM18 qM19 qM20 qM21 qM22 qM23 qM24 qM25 qM26 qM27 qM28
  refine x_aload_n dX12_tests_76 0 rfl ?_
  refine x_getR fdX12_54 rfl dX12_tests_77 f1.1 f1.2 f2 ?_
  refine x_iload_n dX12_tests_80 1 rfl ?_
  refine x_iald dX12_tests_81 f3.1 f3.2 (h1) ?_
  refine x_bipush (v := 26) dX12_tests_82 (by decide) ?_
  refine x_ic_ne 106 dX12_tests_84 (by decide) (fun c1 => ?_) (fun c1 => ?_)
  · refine x_aload_n dX12_tests_106 0 rfl ?_
    refine x_getR fdX12_54 rfl dX12_tests_107 f1.1 f1.2 f2 ?_
    refine x_iload_n dX12_tests_110 1 rfl ?_
    refine x_iald dX12_tests_111 f3.1 f3.2 (h2 c1) ?_
    refine x_bipush (v := 27) dX12_tests_112 (by decide) ?_
    refine x_ic_ne 136 dX12_tests_114 (by decide) (fun c2 => ?_) (fun c2 => ?_)
    · refine x_aload_n dX12_tests_136 0 rfl ?_
      refine x_getR fdX12_51 rfl dX12_tests_137 f1.1 f1.2 f4 ?_
      refine x_iload_n dX12_tests_140 1 rfl ?_
      refine x_iload_n dX12_tests_141 2 rfl ?_
      refine x_iast dX12_tests_142 f5.1 f5.2 (h3 c1 c2) ?_
      refine x_aload_n dX12_tests_143 0 rfl ?_
      refine x_getR fdX12_60 rfl dX12_tests_144 f1.1 f1.2 f6 ?_
      refine x_iload_n dX12_tests_147 1 rfl ?_
      refine x_iconst (v := 0) dX12_tests_148 (by decide) ?_
      refine x_iast dX12_tests_149 f7.1 f7.2 (h4 c1 c2) ?_
      refine x_aload_n dX12_tests_150 0 rfl ?_
      refine x_getR fdX12_63 rfl dX12_tests_151 f1.1 f1.2 f8 ?_
      refine x_iload_n dX12_tests_154 1 rfl ?_
      refine x_iconst (v := 0) dX12_tests_155 (by decide) ?_
      refine x_iast dX12_tests_156 f9.1 f9.2 (h5 c1 c2) ?_
      refine x_aload_n dX12_tests_157 0 rfl ?_
      refine x_getR fdX12_66 rfl dX12_tests_158 f1.1 f1.2 f10 ?_
      refine x_iload_n dX12_tests_161 1 rfl ?_
      refine x_bipush (v := 20) dX12_tests_162 (by decide) ?_
      refine x_iast dX12_tests_164 f11.1 f11.2 (h6 c1 c2) ?_
      exact x_vret rfl dX12_tests_165 (Nat.le_refl _) (Nat.le_refl _) (k1 c1 c2)
    · refine x_aload_n dX12_tests_117 0 rfl ?_
      refine x_getR fdX12_51 rfl dX12_tests_118 f1.1 f1.2 f4 ?_
      refine x_iload_n dX12_tests_121 1 rfl ?_
      refine x_iald dX12_tests_122 f5.1 f5.2 (h7 c1 c2) ?_
      refine x_if_ne 130 dX12_tests_123 (by decide) (fun c3 => ?_) (fun c3 => ?_)
      · refine x_iconst (v := 1) dX12_tests_130 (by decide) ?_
        refine x_goto 135 dX12_tests_131 (by decide) ?_
        refine x_istore_n (lv1 := [(2, .int 1), (0, .ref 130), (1, .int i1)]) dX12_tests_135 (by decide) rfl ?_
        refine x_aload_n dX12_tests_136 1 rfl ?_
        refine x_getR fdX12_51 rfl dX12_tests_137 f1.1 f1.2 f4 ?_
        refine x_iload_n dX12_tests_140 2 rfl ?_
        refine x_iload_n dX12_tests_141 0 rfl ?_
        refine x_iast dX12_tests_142 f5.1 f5.2 (h8 c1 c2 c3) ?_
        refine x_aload_n dX12_tests_143 1 rfl ?_
        refine x_getR fdX12_60 rfl dX12_tests_144 f1.1 f1.2 f6 ?_
        refine x_iload_n dX12_tests_147 2 rfl ?_
        refine x_iconst (v := 0) dX12_tests_148 (by decide) ?_
        refine x_iast dX12_tests_149 f7.1 f7.2 (h9 c1 c2 c3) ?_
        refine x_aload_n dX12_tests_150 1 rfl ?_
        refine x_getR fdX12_63 rfl dX12_tests_151 f1.1 f1.2 f8 ?_
        refine x_iload_n dX12_tests_154 2 rfl ?_
        refine x_iconst (v := 0) dX12_tests_155 (by decide) ?_
        refine x_iast dX12_tests_156 f9.1 f9.2 (h10 c1 c2 c3) ?_
        refine x_aload_n dX12_tests_157 1 rfl ?_
        refine x_getR fdX12_66 rfl dX12_tests_158 f1.1 f1.2 f10 ?_
        refine x_iload_n dX12_tests_161 2 rfl ?_
        refine x_bipush (v := 20) dX12_tests_162 (by decide) ?_
        refine x_iast dX12_tests_164 f11.1 f11.2 (h11 c1 c2 c3) ?_
        exact x_vret rfl dX12_tests_165 (Nat.le_refl _) (Nat.le_refl _) (k2 c1 c2 c3)
      · refine x_iload_n dX12_tests_126 2 rfl ?_
        refine x_if_eq 134 dX12_tests_127 (by decide) (fun c4 => ?_) (fun c4 => ?_)
        · refine x_iconst (v := 0) dX12_tests_134 (by decide) ?_
          refine x_istore_n (lv1 := [(2, .int 0), (0, .ref 130), (1, .int i1)]) dX12_tests_135 (by decide) rfl ?_
          refine x_aload_n dX12_tests_136 1 rfl ?_
          refine x_getR fdX12_51 rfl dX12_tests_137 f1.1 f1.2 f4 ?_
          refine x_iload_n dX12_tests_140 2 rfl ?_
          refine x_iload_n dX12_tests_141 0 rfl ?_
          refine x_iast dX12_tests_142 f5.1 f5.2 (h12 c1 c2 c3 c4) ?_
          refine x_aload_n dX12_tests_143 1 rfl ?_
          refine x_getR fdX12_60 rfl dX12_tests_144 f1.1 f1.2 f6 ?_
          refine x_iload_n dX12_tests_147 2 rfl ?_
          refine x_iconst (v := 0) dX12_tests_148 (by decide) ?_
          refine x_iast dX12_tests_149 f7.1 f7.2 (h13 c1 c2 c3 c4) ?_
          refine x_aload_n dX12_tests_150 1 rfl ?_
          refine x_getR fdX12_63 rfl dX12_tests_151 f1.1 f1.2 f8 ?_
          refine x_iload_n dX12_tests_154 2 rfl ?_
          refine x_iconst (v := 0) dX12_tests_155 (by decide) ?_
          refine x_iast dX12_tests_156 f9.1 f9.2 (h14 c1 c2 c3 c4) ?_
          refine x_aload_n dX12_tests_157 1 rfl ?_
          refine x_getR fdX12_66 rfl dX12_tests_158 f1.1 f1.2 f10 ?_
          refine x_iload_n dX12_tests_161 2 rfl ?_
          refine x_bipush (v := 20) dX12_tests_162 (by decide) ?_
          refine x_iast dX12_tests_164 f11.1 f11.2 (h15 c1 c2 c3 c4) ?_
          exact x_vret rfl dX12_tests_165 (Nat.le_refl _) (Nat.le_refl _) (k3 c1 c2 c3 c4)
        · refine x_iconst (v := 1) dX12_tests_130 (by decide) ?_
          refine x_goto 135 dX12_tests_131 (by decide) ?_
          refine x_istore_n (lv1 := [(2, .int 1), (0, .ref 130), (1, .int i1)]) dX12_tests_135 (by decide) rfl ?_
          refine x_aload_n dX12_tests_136 1 rfl ?_
          refine x_getR fdX12_51 rfl dX12_tests_137 f1.1 f1.2 f4 ?_
          refine x_iload_n dX12_tests_140 2 rfl ?_
          refine x_iload_n dX12_tests_141 0 rfl ?_
          refine x_iast dX12_tests_142 f5.1 f5.2 (h16 c1 c2 c3 c4) ?_
          refine x_aload_n dX12_tests_143 1 rfl ?_
          refine x_getR fdX12_60 rfl dX12_tests_144 f1.1 f1.2 f6 ?_
          refine x_iload_n dX12_tests_147 2 rfl ?_
          refine x_iconst (v := 0) dX12_tests_148 (by decide) ?_
          refine x_iast dX12_tests_149 f7.1 f7.2 (h17 c1 c2 c3 c4) ?_
          refine x_aload_n dX12_tests_150 1 rfl ?_
          refine x_getR fdX12_63 rfl dX12_tests_151 f1.1 f1.2 f8 ?_
          refine x_iload_n dX12_tests_154 2 rfl ?_
          refine x_iconst (v := 0) dX12_tests_155 (by decide) ?_
          refine x_iast dX12_tests_156 f9.1 f9.2 (h18 c1 c2 c3 c4) ?_
          refine x_aload_n dX12_tests_157 1 rfl ?_
          refine x_getR fdX12_66 rfl dX12_tests_158 f1.1 f1.2 f10 ?_
          refine x_iload_n dX12_tests_161 2 rfl ?_
          refine x_bipush (v := 20) dX12_tests_162 (by decide) ?_
          refine x_iast dX12_tests_164 f11.1 f11.2 (h19 c1 c2 c3 c4) ?_
          exact x_vret rfl dX12_tests_165 (Nat.le_refl _) (Nat.le_refl _) (k4 c1 c2 c3 c4)
  · refine x_aload_n dX12_tests_87 0 rfl ?_
    refine x_getR fdX12_51 rfl dX12_tests_88 f1.1 f1.2 f4 ?_
    refine x_iload_n dX12_tests_91 1 rfl ?_
    refine x_iald dX12_tests_92 f5.1 f5.2 (h20 c1) ?_
    refine x_if_eq 104 dX12_tests_93 (by decide) (fun c2 => ?_) (fun c2 => ?_)
    · exact EX.sub [0, 1] (k5 c1 c2) rfl
    · refine x_iload_n dX12_tests_96 2 rfl ?_
      refine x_if_eq 104 dX12_tests_97 (by decide) (fun c3 => ?_) (fun c3 => ?_)
      · exact EX.sub [0, 1] (k6 c1 c2 c3) rfl
      · refine x_iconst (v := 1) dX12_tests_100 (by decide) ?_
        refine x_goto 105 dX12_tests_101 (by decide) ?_
        refine x_istore_n (lv1 := [(2, .int 1), (0, .ref 130), (1, .int i1)]) dX12_tests_105 (by decide) rfl ?_
        refine x_aload_n dX12_tests_106 1 rfl ?_
        refine x_getR fdX12_54 rfl dX12_tests_107 f1.1 f1.2 f2 ?_
        refine x_iload_n dX12_tests_110 2 rfl ?_
        refine x_iald dX12_tests_111 f3.1 f3.2 (h21 c1 c2 c3) ?_
        refine x_bipush (v := 27) dX12_tests_112 (by decide) ?_
        refine x_ic_ne 136 dX12_tests_114 (by decide) (fun c4 => ?_) (fun c4 => ?_)
        · refine x_aload_n dX12_tests_136 1 rfl ?_
          refine x_getR fdX12_51 rfl dX12_tests_137 f1.1 f1.2 f4 ?_
          refine x_iload_n dX12_tests_140 2 rfl ?_
          refine x_iload_n dX12_tests_141 0 rfl ?_
          refine x_iast dX12_tests_142 f5.1 f5.2 (h22 c1 c2 c3 c4) ?_
          refine x_aload_n dX12_tests_143 1 rfl ?_
          refine x_getR fdX12_60 rfl dX12_tests_144 f1.1 f1.2 f6 ?_
          refine x_iload_n dX12_tests_147 2 rfl ?_
          refine x_iconst (v := 0) dX12_tests_148 (by decide) ?_
          refine x_iast dX12_tests_149 f7.1 f7.2 (h23 c1 c2 c3 c4) ?_
          refine x_aload_n dX12_tests_150 1 rfl ?_
          refine x_getR fdX12_63 rfl dX12_tests_151 f1.1 f1.2 f8 ?_
          refine x_iload_n dX12_tests_154 2 rfl ?_
          refine x_iconst (v := 0) dX12_tests_155 (by decide) ?_
          refine x_iast dX12_tests_156 f9.1 f9.2 (h24 c1 c2 c3 c4) ?_
          refine x_aload_n dX12_tests_157 1 rfl ?_
          refine x_getR fdX12_66 rfl dX12_tests_158 f1.1 f1.2 f10 ?_
          refine x_iload_n dX12_tests_161 2 rfl ?_
          refine x_bipush (v := 20) dX12_tests_162 (by decide) ?_
          refine x_iast dX12_tests_164 f11.1 f11.2 (h25 c1 c2 c3 c4) ?_
          exact x_vret rfl dX12_tests_165 (Nat.le_refl _) (Nat.le_refl _) (k7 c1 c2 c3 c4)
        · refine x_aload_n dX12_tests_117 1 rfl ?_
          refine x_getR fdX12_51 rfl dX12_tests_118 f1.1 f1.2 f4 ?_
          refine x_iload_n dX12_tests_121 2 rfl ?_
          refine x_iald dX12_tests_122 f5.1 f5.2 (h26 c1 c2 c3 c4) ?_
          refine x_if_ne 130 dX12_tests_123 (by decide) (fun c5 => ?_) (fun c5 => ?_)
          · refine x_iconst (v := 1) dX12_tests_130 (by decide) ?_
            refine x_goto 135 dX12_tests_131 (by decide) ?_
            refine x_istore_n (lv1 := [(2, .int 1), (0, .ref 130), (1, .int i1)]) dX12_tests_135 (by decide) rfl ?_
            refine x_aload_n dX12_tests_136 1 rfl ?_
            refine x_getR fdX12_51 rfl dX12_tests_137 f1.1 f1.2 f4 ?_
            refine x_iload_n dX12_tests_140 2 rfl ?_
            refine x_iload_n dX12_tests_141 0 rfl ?_
            refine x_iast dX12_tests_142 f5.1 f5.2 (h27 c1 c2 c3 c4 c5) ?_
            refine x_aload_n dX12_tests_143 1 rfl ?_
            refine x_getR fdX12_60 rfl dX12_tests_144 f1.1 f1.2 f6 ?_
            refine x_iload_n dX12_tests_147 2 rfl ?_
            refine x_iconst (v := 0) dX12_tests_148 (by decide) ?_
            refine x_iast dX12_tests_149 f7.1 f7.2 (h28 c1 c2 c3 c4 c5) ?_
            refine x_aload_n dX12_tests_150 1 rfl ?_
            refine x_getR fdX12_63 rfl dX12_tests_151 f1.1 f1.2 f8 ?_
            refine x_iload_n dX12_tests_154 2 rfl ?_
            refine x_iconst (v := 0) dX12_tests_155 (by decide) ?_
            refine x_iast dX12_tests_156 f9.1 f9.2 (h29 c1 c2 c3 c4 c5) ?_
            refine x_aload_n dX12_tests_157 1 rfl ?_
            refine x_getR fdX12_66 rfl dX12_tests_158 f1.1 f1.2 f10 ?_
            refine x_iload_n dX12_tests_161 2 rfl ?_
            refine x_bipush (v := 20) dX12_tests_162 (by decide) ?_
            refine x_iast dX12_tests_164 f11.1 f11.2 (h30 c1 c2 c3 c4 c5) ?_
            exact x_vret rfl dX12_tests_165 (Nat.le_refl _) (Nat.le_refl _) (k8 c1 c2 c3 c4 c5)
          · refine x_iload_n dX12_tests_126 0 rfl ?_
            refine x_if_eq 134 dX12_tests_127 (by decide) (fun cz => absurd cz (by decide)) (fun _ => ?_)
            refine x_iconst (v := 1) dX12_tests_130 (by decide) ?_
            refine x_goto 135 dX12_tests_131 (by decide) ?_
            refine x_istore_n (lv1 := [(2, .int 1), (0, .ref 130), (1, .int i1)]) dX12_tests_135 (by decide) rfl ?_
            refine x_aload_n dX12_tests_136 1 rfl ?_
            refine x_getR fdX12_51 rfl dX12_tests_137 f1.1 f1.2 f4 ?_
            refine x_iload_n dX12_tests_140 2 rfl ?_
            refine x_iload_n dX12_tests_141 0 rfl ?_
            refine x_iast dX12_tests_142 f5.1 f5.2 (h31 c1 c2 c3 c4 c5) ?_
            refine x_aload_n dX12_tests_143 1 rfl ?_
            refine x_getR fdX12_60 rfl dX12_tests_144 f1.1 f1.2 f6 ?_
            refine x_iload_n dX12_tests_147 2 rfl ?_
            refine x_iconst (v := 0) dX12_tests_148 (by decide) ?_
            refine x_iast dX12_tests_149 f7.1 f7.2 (h32 c1 c2 c3 c4 c5) ?_
            refine x_aload_n dX12_tests_150 1 rfl ?_
            refine x_getR fdX12_63 rfl dX12_tests_151 f1.1 f1.2 f8 ?_
            refine x_iload_n dX12_tests_154 2 rfl ?_
            refine x_iconst (v := 0) dX12_tests_155 (by decide) ?_
            refine x_iast dX12_tests_156 f9.1 f9.2 (h33 c1 c2 c3 c4 c5) ?_
            refine x_aload_n dX12_tests_157 1 rfl ?_
            refine x_getR fdX12_66 rfl dX12_tests_158 f1.1 f1.2 f10 ?_
            refine x_iload_n dX12_tests_161 2 rfl ?_
            refine x_bipush (v := 20) dX12_tests_162 (by decide) ?_
            refine x_iast dX12_tests_164 f11.1 f11.2 (h34 c1 c2 c3 c4 c5) ?_
            exact x_vret rfl dX12_tests_165 (Nat.le_refl _) (Nat.le_refl _) (k9 c1 c2 c3 c4 c5)
set_option maxRecDepth 8000 in
theorem qX12_tests_104 {g : GG} {d : Nat} {M : MM} {P : Option Value → MM → Prop} {i1 : Int32} {M1 : MM} {M2 : MM} {M3 : MM} {M4 : MM} {M5 : MM} {M6 : MM} {M7 : MM} {M8 : MM} {M9 : MM} {M10 : MM} {M11 : MM} {M12 : MM} {la lb pa pb rl : Nat} (L : Lay M la lb pa pb rl)
    (qM1 : M1 = wi M 144 (i1 : Int32).toNatClampNeg 0)
    (qM2 : M2 = wi M1 147 (i1 : Int32).toNatClampNeg 0)
    (qM3 : M3 = wi M2 148 (i1 : Int32).toNatClampNeg 0)
    (qM4 : M4 = wi M3 149 (i1 : Int32).toNatClampNeg 20)
    (qM5 : M5 = wi M 144 (i1 : Int32).toNatClampNeg 1)
    (qM6 : M6 = wi M5 147 (i1 : Int32).toNatClampNeg 0)
    (qM7 : M7 = wi M6 148 (i1 : Int32).toNatClampNeg 0)
    (qM8 : M8 = wi M7 149 (i1 : Int32).toNatClampNeg 20)
    (qM9 : M9 = wi M 144 (i1 : Int32).toNatClampNeg 0)
    (qM10 : M10 = wi M9 147 (i1 : Int32).toNatClampNeg 0)
    (qM11 : M11 = wi M10 148 (i1 : Int32).toNatClampNeg 0)
    (qM12 : M12 = wi M11 149 (i1 : Int32).toNatClampNeg 20)
    (h1 : vp_in i1 7)
    (h2 : ¬ (mi M 145 (i1 : Int32).toNatClampNeg) = 27 → vp_in i1 7)
    (h3 : ¬ (mi M 145 (i1 : Int32).toNatClampNeg) = 27 → vp_in i1 7)
    (h4 : ¬ (mi M 145 (i1 : Int32).toNatClampNeg) = 27 → vp_in i1 7)
    (h5 : ¬ (mi M 145 (i1 : Int32).toNatClampNeg) = 27 → vp_in i1 7)
    (h6 : (mi M 145 (i1 : Int32).toNatClampNeg) = 27 → vp_in i1 7)
    (h7 : (mi M 145 (i1 : Int32).toNatClampNeg) = 27 → ¬ (mi M 144 (i1 : Int32).toNatClampNeg) = 0 → vp_in i1 7)
    (h8 : (mi M 145 (i1 : Int32).toNatClampNeg) = 27 → ¬ (mi M 144 (i1 : Int32).toNatClampNeg) = 0 → vp_in i1 7)
    (h9 : (mi M 145 (i1 : Int32).toNatClampNeg) = 27 → ¬ (mi M 144 (i1 : Int32).toNatClampNeg) = 0 → vp_in i1 7)
    (h10 : (mi M 145 (i1 : Int32).toNatClampNeg) = 27 → ¬ (mi M 144 (i1 : Int32).toNatClampNeg) = 0 → vp_in i1 7)
    (h11 : (mi M 145 (i1 : Int32).toNatClampNeg) = 27 → (mi M 144 (i1 : Int32).toNatClampNeg) = 0 → vp_in i1 7)
    (h12 : (mi M 145 (i1 : Int32).toNatClampNeg) = 27 → (mi M 144 (i1 : Int32).toNatClampNeg) = 0 → vp_in i1 7)
    (h13 : (mi M 145 (i1 : Int32).toNatClampNeg) = 27 → (mi M 144 (i1 : Int32).toNatClampNeg) = 0 → vp_in i1 7)
    (h14 : (mi M 145 (i1 : Int32).toNatClampNeg) = 27 → (mi M 144 (i1 : Int32).toNatClampNeg) = 0 → vp_in i1 7)
    (k1 : ¬ (mi M 145 (i1 : Int32).toNatClampNeg) = 27 → P none M4)
    (k2 : (mi M 145 (i1 : Int32).toNatClampNeg) = 27 → ¬ (mi M 144 (i1 : Int32).toNatClampNeg) = 0 → P none M8)
    (k3 : (mi M 145 (i1 : Int32).toNatClampNeg) = 27 → (mi M 144 (i1 : Int32).toNatClampNeg) = 0 → P none M12) :
    E0 g YX12_tests d 104 [(0, .ref 130), (1, .int i1)] [] M P := by
  have f1 : ob M 130 12 := L.s rfl (by decide)
  have f2 : mr M 130 24 = some 145 := L.r 140 rfl
  have f3 : ar M 145 1 7 := L.s rfl (by decide)
  have f4 : mr M 130 23 = some 144 := L.r 139 rfl
  have f5 : ar M 144 1 7 := L.s rfl (by decide)
  have f6 : mr M 130 26 = some 147 := L.r 142 rfl
  have f7 : ar M 147 1 7 := L.s rfl (by decide)
  have f8 : mr M 130 27 = some 148 := L.r 143 rfl
  have f9 : ar M 148 1 7 := L.s rfl (by decide)
  have f10 : mr M 130 28 = some 149 := L.r 144 rfl
  have f11 : ar M 149 1 7 := L.s rfl (by decide)
  subst qM1 qM2 qM3 qM4 qM5 qM6 qM7 qM8 qM9 qM10 qM11 qM12
  refine x_iconst (v := 0) dX12_tests_104 (by decide) ?_
  refine x_istore_n (lv1 := [(2, .int 0), (0, .ref 130), (1, .int i1)]) dX12_tests_105 (by decide) rfl ?_
  refine x_aload_n dX12_tests_106 1 rfl ?_
  refine x_getR fdX12_54 rfl dX12_tests_107 f1.1 f1.2 f2 ?_
  refine x_iload_n dX12_tests_110 2 rfl ?_
  refine x_iald dX12_tests_111 f3.1 f3.2 (h1) ?_
  refine x_bipush (v := 27) dX12_tests_112 (by decide) ?_
  refine x_ic_ne 136 dX12_tests_114 (by decide) (fun c1 => ?_) (fun c1 => ?_)
  · refine x_aload_n dX12_tests_136 1 rfl ?_
    refine x_getR fdX12_51 rfl dX12_tests_137 f1.1 f1.2 f4 ?_
    refine x_iload_n dX12_tests_140 2 rfl ?_
    refine x_iload_n dX12_tests_141 0 rfl ?_
    refine x_iast dX12_tests_142 f5.1 f5.2 (h2 c1) ?_
    refine x_aload_n dX12_tests_143 1 rfl ?_
    refine x_getR fdX12_60 rfl dX12_tests_144 f1.1 f1.2 f6 ?_
    refine x_iload_n dX12_tests_147 2 rfl ?_
    refine x_iconst (v := 0) dX12_tests_148 (by decide) ?_
    refine x_iast dX12_tests_149 f7.1 f7.2 (h3 c1) ?_
    refine x_aload_n dX12_tests_150 1 rfl ?_
    refine x_getR fdX12_63 rfl dX12_tests_151 f1.1 f1.2 f8 ?_
    refine x_iload_n dX12_tests_154 2 rfl ?_
    refine x_iconst (v := 0) dX12_tests_155 (by decide) ?_
    refine x_iast dX12_tests_156 f9.1 f9.2 (h4 c1) ?_
    refine x_aload_n dX12_tests_157 1 rfl ?_
    refine x_getR fdX12_66 rfl dX12_tests_158 f1.1 f1.2 f10 ?_
    refine x_iload_n dX12_tests_161 2 rfl ?_
    refine x_bipush (v := 20) dX12_tests_162 (by decide) ?_
    refine x_iast dX12_tests_164 f11.1 f11.2 (h5 c1) ?_
    exact x_vret rfl dX12_tests_165 (Nat.le_refl _) (Nat.le_refl _) (k1 c1)
  · refine x_aload_n dX12_tests_117 1 rfl ?_
    refine x_getR fdX12_51 rfl dX12_tests_118 f1.1 f1.2 f4 ?_
    refine x_iload_n dX12_tests_121 2 rfl ?_
    refine x_iald dX12_tests_122 f5.1 f5.2 (h6 c1) ?_
    refine x_if_ne 130 dX12_tests_123 (by decide) (fun c2 => ?_) (fun c2 => ?_)
    · refine x_iconst (v := 1) dX12_tests_130 (by decide) ?_
      refine x_goto 135 dX12_tests_131 (by decide) ?_
      refine x_istore_n (lv1 := [(2, .int 1), (0, .ref 130), (1, .int i1)]) dX12_tests_135 (by decide) rfl ?_
      refine x_aload_n dX12_tests_136 1 rfl ?_
      refine x_getR fdX12_51 rfl dX12_tests_137 f1.1 f1.2 f4 ?_
      refine x_iload_n dX12_tests_140 2 rfl ?_
      refine x_iload_n dX12_tests_141 0 rfl ?_
      refine x_iast dX12_tests_142 f5.1 f5.2 (h7 c1 c2) ?_
      refine x_aload_n dX12_tests_143 1 rfl ?_
      refine x_getR fdX12_60 rfl dX12_tests_144 f1.1 f1.2 f6 ?_
      refine x_iload_n dX12_tests_147 2 rfl ?_
      refine x_iconst (v := 0) dX12_tests_148 (by decide) ?_
      refine x_iast dX12_tests_149 f7.1 f7.2 (h8 c1 c2) ?_
      refine x_aload_n dX12_tests_150 1 rfl ?_
      refine x_getR fdX12_63 rfl dX12_tests_151 f1.1 f1.2 f8 ?_
      refine x_iload_n dX12_tests_154 2 rfl ?_
      refine x_iconst (v := 0) dX12_tests_155 (by decide) ?_
      refine x_iast dX12_tests_156 f9.1 f9.2 (h9 c1 c2) ?_
      refine x_aload_n dX12_tests_157 1 rfl ?_
      refine x_getR fdX12_66 rfl dX12_tests_158 f1.1 f1.2 f10 ?_
      refine x_iload_n dX12_tests_161 2 rfl ?_
      refine x_bipush (v := 20) dX12_tests_162 (by decide) ?_
      refine x_iast dX12_tests_164 f11.1 f11.2 (h10 c1 c2) ?_
      exact x_vret rfl dX12_tests_165 (Nat.le_refl _) (Nat.le_refl _) (k2 c1 c2)
    · refine x_iload_n dX12_tests_126 0 rfl ?_
      refine x_if_eq 134 dX12_tests_127 (by decide) (fun _ => ?_) (fun cz => absurd cz (by decide))
      refine x_iconst (v := 0) dX12_tests_134 (by decide) ?_
      refine x_istore_n (lv1 := [(2, .int 0), (0, .ref 130), (1, .int i1)]) dX12_tests_135 (by decide) rfl ?_
      refine x_aload_n dX12_tests_136 1 rfl ?_
      refine x_getR fdX12_51 rfl dX12_tests_137 f1.1 f1.2 f4 ?_
      refine x_iload_n dX12_tests_140 2 rfl ?_
      refine x_iload_n dX12_tests_141 0 rfl ?_
      refine x_iast dX12_tests_142 f5.1 f5.2 (h11 c1 c2) ?_
      refine x_aload_n dX12_tests_143 1 rfl ?_
      refine x_getR fdX12_60 rfl dX12_tests_144 f1.1 f1.2 f6 ?_
      refine x_iload_n dX12_tests_147 2 rfl ?_
      refine x_iconst (v := 0) dX12_tests_148 (by decide) ?_
      refine x_iast dX12_tests_149 f7.1 f7.2 (h12 c1 c2) ?_
      refine x_aload_n dX12_tests_150 1 rfl ?_
      refine x_getR fdX12_63 rfl dX12_tests_151 f1.1 f1.2 f8 ?_
      refine x_iload_n dX12_tests_154 2 rfl ?_
      refine x_iconst (v := 0) dX12_tests_155 (by decide) ?_
      refine x_iast dX12_tests_156 f9.1 f9.2 (h13 c1 c2) ?_
      refine x_aload_n dX12_tests_157 1 rfl ?_
      refine x_getR fdX12_66 rfl dX12_tests_158 f1.1 f1.2 f10 ?_
      refine x_iload_n dX12_tests_161 2 rfl ?_
      refine x_bipush (v := 20) dX12_tests_162 (by decide) ?_
      refine x_iast dX12_tests_164 f11.1 f11.2 (h14 c1 c2) ?_
      exact x_vret rfl dX12_tests_165 (Nat.le_refl _) (Nat.le_refl _) (k3 c1 c2)
set_option maxRecDepth 8000 in
theorem qX12_worked_0 {g : GG} {d : Nat} {M : MM} {P : Option Value → MM → Prop} {i1 : Int32} {la lb pa pb rl : Nat} (L : Lay M la lb pa pb rl)
    (k1 : K0 g YX12_worked YX12_opens d 7 [.ref 130, .int 0] [(0, .ref 130), (1, .int i1), (2, .int 0)] [] M P) :
    E0 g YX12_worked d 0 [(0, .ref 130), (1, .int i1)] [] M P := by
  have f1 : ob M 130 12 := L.s rfl (by decide)
  refine x_iconst (v := 0) dX12_worked_0 (by decide) ?_
  refine x_istore_n (lv1 := [(2, .int 0), (0, .ref 130), (1, .int i1)]) dX12_worked_1 (by decide) rfl ?_
  refine x_aload_n dX12_worked_2 1 rfl ?_
  refine x_iconst (v := 0) dX12_worked_3 (by decide) ?_
  refine EX.sub [1, 2, 0] (K0.v (As := [.int 0]) (st := []) cvX12_219 dX12_worked_4 rfl rfl f1 rfl (Nat.le_of_ble_eq_true rfl) (k1)) rfl
set_option maxRecDepth 8000 in
theorem qX12_worked_7 {g : GG} {d : Nat} {M : MM} {P : Option Value → MM → Prop} {i1 : Int32} {i2 : Int32} {la lb pa pb rl : Nat} (L : Lay M la lb pa pb rl)
    (h1 : vp_in i1 12)
    (k1 : E0 g YX12_worked d 14 [(0, .ref 130), (1, .int i1), (2, .int i2), (3, .int (mi M 139 (i1 : Int32).toNatClampNeg))] [] M P) :
    E0 g YX12_worked d 7 [(0, .ref 130), (1, .int i1), (2, .int i2)] [] M P := by
  have f1 : ob M 130 12 := L.s rfl (by decide)
  have f2 : mr M 130 17 = some 139 := L.r 134 rfl
  have f3 : ar M 139 1 12 := L.s rfl (by decide)
  refine x_aload_n dX12_worked_7 0 rfl ?_
  refine x_getR fdX12_35 rfl dX12_worked_8 f1.1 f1.2 f2 ?_
  refine x_iload_n dX12_worked_11 1 rfl ?_
  refine x_iald dX12_worked_12 f3.1 f3.2 (h1) ?_
  refine x_istore_n (lv1 := [(3, .int (mi M 139 (i1 : Int32).toNatClampNeg)), (0, .ref 130), (1, .int i1), (2, .int i2)]) dX12_worked_13 (by decide) rfl ?_
  exact EX.sub [1, 2, 3, 0] k1 rfl
set_option maxRecDepth 8000 in
theorem qX12_worked_14 {g : GG} {d : Nat} {M : MM} {P : Option Value → MM → Prop} {i1 : Int32} {i2 : Int32} {i3 : Int32} {M1 : MM} {la lb pa pb rl : Nat} (L : Lay M la lb pa pb rl)
    (qM1 : M1 = wi M 151 (i2 : Int32).toNatClampNeg (mi M 141 (i3 : Int32).toNatClampNeg))
    (h1 : vp_in i1 12)
    (h2 : ¬ ((mi M 140 (i1 : Int32).toNatClampNeg) ≤ i3) → vp_in i3 2000)
    (h3 : ¬ ((mi M 140 (i1 : Int32).toNatClampNeg) ≤ i3) → ¬ ((mi M 141 (i3 : Int32).toNatClampNeg) = 28) → ¬ (mi M 141 (i3 : Int32).toNatClampNeg) = 30 → ¬ ((mi M 141 (i3 : Int32).toNatClampNeg) = 20) → ¬ (mi M 141 (i3 : Int32).toNatClampNeg) = 21 → ¬ (mi M 141 (i3 : Int32).toNatClampNeg) = 22 → ¬ ((mi M 141 (i3 : Int32).toNatClampNeg) = 24) → ¬ (mi M 141 (i3 : Int32).toNatClampNeg) = 25 → ¬ ((mi M 141 (i3 : Int32).toNatClampNeg) = 26) → ¬ (mi M 141 (i3 : Int32).toNatClampNeg) = 27 → (mi M 141 (i3 : Int32).toNatClampNeg) < 100 → ¬ (20 ≤ (mi M 141 (i3 : Int32).toNatClampNeg)) → vp_in (mi M 141 (i3 : Int32).toNatClampNeg) 20)
    (h4 : ¬ ((mi M 140 (i1 : Int32).toNatClampNeg) ≤ i3) → ¬ ((mi M 141 (i3 : Int32).toNatClampNeg) = 28) → ¬ (mi M 141 (i3 : Int32).toNatClampNeg) = 30 → ¬ ((mi M 141 (i3 : Int32).toNatClampNeg) = 20) → ¬ (mi M 141 (i3 : Int32).toNatClampNeg) = 21 → (mi M 141 (i3 : Int32).toNatClampNeg) = 22 → vp_in i2 7)
    (k1 : (mi M 140 (i1 : Int32).toNatClampNeg) ≤ i3 → K0 g YX12_worked YX12_tests d 340 [.ref 130, .int 0] [(0, .ref 130)] [] M P)
    (k2 : ¬ ((mi M 140 (i1 : Int32).toNatClampNeg) ≤ i3) → (mi M 141 (i3 : Int32).toNatClampNeg) = 28 → E0 g YX12_worked d 46 [(0, .ref 130), (1, .int i1), (2, .int i2), (3, .int i3), (4, .int (mi M 141 (i3 : Int32).toNatClampNeg))] [] M P)
    (k3 : ¬ ((mi M 140 (i1 : Int32).toNatClampNeg) ≤ i3) → ¬ ((mi M 141 (i3 : Int32).toNatClampNeg) = 28) → ¬ (mi M 141 (i3 : Int32).toNatClampNeg) = 30 → (mi M 141 (i3 : Int32).toNatClampNeg) = 20 → K0 g YX12_worked YX12_sums d 94 [.ref 130, .int i2] [(0, .ref 130), (1, .int i1), (2, .int i2), (3, .int i3), (4, .int (mi M 141 (i3 : Int32).toNatClampNeg))] [] M P)
    (k4 : ¬ ((mi M 140 (i1 : Int32).toNatClampNeg) ≤ i3) → ¬ ((mi M 141 (i3 : Int32).toNatClampNeg) = 28) → ¬ (mi M 141 (i3 : Int32).toNatClampNeg) = 30 → ¬ ((mi M 141 (i3 : Int32).toNatClampNeg) = 20) → ¬ (mi M 141 (i3 : Int32).toNatClampNeg) = 21 → ¬ (mi M 141 (i3 : Int32).toNatClampNeg) = 22 → (mi M 141 (i3 : Int32).toNatClampNeg) = 24 → K0 g YX12_worked YX12_sums d 142 [.ref 130, .int i2] [(0, .ref 130), (1, .int i1), (2, .int i2), (3, .int i3), (4, .int (mi M 141 (i3 : Int32).toNatClampNeg))] [] M P)
    (k5 : ¬ ((mi M 140 (i1 : Int32).toNatClampNeg) ≤ i3) → ¬ ((mi M 141 (i3 : Int32).toNatClampNeg) = 28) → ¬ (mi M 141 (i3 : Int32).toNatClampNeg) = 30 → ¬ ((mi M 141 (i3 : Int32).toNatClampNeg) = 20) → ¬ (mi M 141 (i3 : Int32).toNatClampNeg) = 21 → ¬ (mi M 141 (i3 : Int32).toNatClampNeg) = 22 → ¬ ((mi M 141 (i3 : Int32).toNatClampNeg) = 24) → ¬ (mi M 141 (i3 : Int32).toNatClampNeg) = 25 → (mi M 141 (i3 : Int32).toNatClampNeg) = 26 → K0 g YX12_worked YX12_tests d 199 [.ref 130, .int i2] [(0, .ref 130), (1, .int i1), (2, .int i2), (3, .int i3), (4, .int (mi M 141 (i3 : Int32).toNatClampNeg))] [] M P)
    (k6 : ¬ ((mi M 140 (i1 : Int32).toNatClampNeg) ≤ i3) → ¬ ((mi M 141 (i3 : Int32).toNatClampNeg) = 28) → ¬ (mi M 141 (i3 : Int32).toNatClampNeg) = 30 → ¬ ((mi M 141 (i3 : Int32).toNatClampNeg) = 20) → ¬ (mi M 141 (i3 : Int32).toNatClampNeg) = 21 → ¬ (mi M 141 (i3 : Int32).toNatClampNeg) = 22 → ¬ ((mi M 141 (i3 : Int32).toNatClampNeg) = 24) → ¬ (mi M 141 (i3 : Int32).toNatClampNeg) = 25 → ¬ ((mi M 141 (i3 : Int32).toNatClampNeg) = 26) → ¬ (mi M 141 (i3 : Int32).toNatClampNeg) = 27 → (mi M 141 (i3 : Int32).toNatClampNeg) < 100 → 20 ≤ (mi M 141 (i3 : Int32).toNatClampNeg) → E0 g YX12_worked d 243 [(0, .ref 130), (1, .int i1), (2, .int i2), (3, .int i3), (4, .int (mi M 141 (i3 : Int32).toNatClampNeg))] [.int 0] M P)
    (k7 : ¬ ((mi M 140 (i1 : Int32).toNatClampNeg) ≤ i3) → ¬ ((mi M 141 (i3 : Int32).toNatClampNeg) = 28) → ¬ (mi M 141 (i3 : Int32).toNatClampNeg) = 30 → ¬ ((mi M 141 (i3 : Int32).toNatClampNeg) = 20) → ¬ (mi M 141 (i3 : Int32).toNatClampNeg) = 21 → ¬ (mi M 141 (i3 : Int32).toNatClampNeg) = 22 → ¬ ((mi M 141 (i3 : Int32).toNatClampNeg) = 24) → ¬ (mi M 141 (i3 : Int32).toNatClampNeg) = 25 → ¬ ((mi M 141 (i3 : Int32).toNatClampNeg) = 26) → ¬ (mi M 141 (i3 : Int32).toNatClampNeg) = 27 → (mi M 141 (i3 : Int32).toNatClampNeg) < 100 → ¬ (20 ≤ (mi M 141 (i3 : Int32).toNatClampNeg)) → E0 g YX12_worked d 243 [(0, .ref 130), (1, .int i1), (2, .int i2), (3, .int i3), (4, .int (mi M 141 (i3 : Int32).toNatClampNeg))] [.int (mi M 153 ((mi M 141 (i3 : Int32).toNatClampNeg) : Int32).toNatClampNeg)] M P)
    (k8 : ¬ ((mi M 140 (i1 : Int32).toNatClampNeg) ≤ i3) → ¬ ((mi M 141 (i3 : Int32).toNatClampNeg) = 28) → ¬ (mi M 141 (i3 : Int32).toNatClampNeg) = 30 → ¬ ((mi M 141 (i3 : Int32).toNatClampNeg) = 20) → ¬ (mi M 141 (i3 : Int32).toNatClampNeg) = 21 → ¬ (mi M 141 (i3 : Int32).toNatClampNeg) = 22 → ¬ ((mi M 141 (i3 : Int32).toNatClampNeg) = 24) → ¬ (mi M 141 (i3 : Int32).toNatClampNeg) = 25 → ¬ ((mi M 141 (i3 : Int32).toNatClampNeg) = 26) → ¬ (mi M 141 (i3 : Int32).toNatClampNeg) = 27 → ¬ ((mi M 141 (i3 : Int32).toNatClampNeg) < 100) → E0 g YX12_worked d 243 [(0, .ref 130), (1, .int i1), (2, .int i2), (3, .int i3), (4, .int (mi M 141 (i3 : Int32).toNatClampNeg))] [.int ((mi M 141 (i3 : Int32).toNatClampNeg) - 100)] M P)
    (k9 : ¬ ((mi M 140 (i1 : Int32).toNatClampNeg) ≤ i3) → ¬ ((mi M 141 (i3 : Int32).toNatClampNeg) = 28) → ¬ (mi M 141 (i3 : Int32).toNatClampNeg) = 30 → ¬ ((mi M 141 (i3 : Int32).toNatClampNeg) = 20) → ¬ (mi M 141 (i3 : Int32).toNatClampNeg) = 21 → ¬ (mi M 141 (i3 : Int32).toNatClampNeg) = 22 → ¬ ((mi M 141 (i3 : Int32).toNatClampNeg) = 24) → ¬ (mi M 141 (i3 : Int32).toNatClampNeg) = 25 → ¬ ((mi M 141 (i3 : Int32).toNatClampNeg) = 26) → (mi M 141 (i3 : Int32).toNatClampNeg) = 27 → K0 g YX12_worked YX12_tests d 199 [.ref 130, .int i2] [(0, .ref 130), (1, .int i1), (2, .int i2), (3, .int i3), (4, .int (mi M 141 (i3 : Int32).toNatClampNeg))] [] M P)
    (k10 : ¬ ((mi M 140 (i1 : Int32).toNatClampNeg) ≤ i3) → ¬ ((mi M 141 (i3 : Int32).toNatClampNeg) = 28) → ¬ (mi M 141 (i3 : Int32).toNatClampNeg) = 30 → ¬ ((mi M 141 (i3 : Int32).toNatClampNeg) = 20) → ¬ (mi M 141 (i3 : Int32).toNatClampNeg) = 21 → ¬ (mi M 141 (i3 : Int32).toNatClampNeg) = 22 → ¬ ((mi M 141 (i3 : Int32).toNatClampNeg) = 24) → (mi M 141 (i3 : Int32).toNatClampNeg) = 25 → K0 g YX12_worked YX12_sums d 142 [.ref 130, .int i2] [(0, .ref 130), (1, .int i1), (2, .int i2), (3, .int i3), (4, .int (mi M 141 (i3 : Int32).toNatClampNeg))] [] M P)
    (k11 : ¬ ((mi M 140 (i1 : Int32).toNatClampNeg) ≤ i3) → ¬ ((mi M 141 (i3 : Int32).toNatClampNeg) = 28) → ¬ (mi M 141 (i3 : Int32).toNatClampNeg) = 30 → ¬ ((mi M 141 (i3 : Int32).toNatClampNeg) = 20) → ¬ (mi M 141 (i3 : Int32).toNatClampNeg) = 21 → (mi M 141 (i3 : Int32).toNatClampNeg) = 22 → E0 g YX12_worked d 329 [(0, .ref 130), (1, .int i1), (2, .int i2), (3, .int i3)] [] M1 P)
    (k12 : ¬ ((mi M 140 (i1 : Int32).toNatClampNeg) ≤ i3) → ¬ ((mi M 141 (i3 : Int32).toNatClampNeg) = 28) → ¬ (mi M 141 (i3 : Int32).toNatClampNeg) = 30 → ¬ ((mi M 141 (i3 : Int32).toNatClampNeg) = 20) → (mi M 141 (i3 : Int32).toNatClampNeg) = 21 → K0 g YX12_worked YX12_sums d 94 [.ref 130, .int i2] [(0, .ref 130), (1, .int i1), (2, .int i2), (3, .int i3), (4, .int (mi M 141 (i3 : Int32).toNatClampNeg))] [] M P)
    (k13 : ¬ ((mi M 140 (i1 : Int32).toNatClampNeg) ≤ i3) → ¬ ((mi M 141 (i3 : Int32).toNatClampNeg) = 28) → (mi M 141 (i3 : Int32).toNatClampNeg) = 30 → E0 g YX12_worked d 46 [(0, .ref 130), (1, .int i1), (2, .int i2), (3, .int i3), (4, .int (mi M 141 (i3 : Int32).toNatClampNeg))] [] M P) :
    E0 g YX12_worked d 14 [(0, .ref 130), (1, .int i1), (2, .int i2), (3, .int i3)] [] M P := by
  have f1 : ob M 130 12 := L.s rfl (by decide)
  have f2 : mr M 130 18 = some 140 := L.r 135 rfl
  have f3 : ar M 140 1 12 := L.s rfl (by decide)
  have f4 : mr M 130 19 = some 141 := L.r 136 rfl
  have f5 : ar M 141 1 2000 := L.s rfl (by decide)
  have f6 : mr M 130 32 = some 153 := L.r 148 rfl
  have f7 : ar M 153 1 20 := L.s rfl (by decide)
  have f8 : mr M 130 30 = some 151 := L.r 146 rfl
  have f9 : ar M 151 1 7 := L.s rfl (by decide)
  subst qM1
  refine x_iload_n dX12_worked_14 3 rfl ?_
  refine x_aload_n dX12_worked_15 0 rfl ?_
  refine x_getR fdX12_38 rfl dX12_worked_16 f1.1 f1.2 f2 ?_
  refine x_iload_n dX12_worked_19 1 rfl ?_
  refine x_iald dX12_worked_20 f3.1 f3.2 (h1) ?_
  refine x_ic_ge 335 dX12_worked_21 (by decide) (fun c1 => ?_) (fun c1 => ?_)
  · refine x_aload_n dX12_worked_335 0 rfl ?_
    refine x_iconst (v := 0) dX12_worked_336 (by decide) ?_
    refine EX.sub [0] (K0.v (As := [.int 0]) (st := []) cvX12_222 dX12_worked_337 rfl rfl f1 rfl (Nat.le_of_ble_eq_true rfl) (k1 c1)) rfl
  · refine x_aload_n dX12_worked_24 0 rfl ?_
    refine x_getR fdX12_41 rfl dX12_worked_25 f1.1 f1.2 f4 ?_
    refine x_iload_n dX12_worked_28 3 rfl ?_
    refine x_iald dX12_worked_29 f5.1 f5.2 (h2 c1) ?_
    refine x_istore (lv1 := [(4, .int (mi M 141 (i3 : Int32).toNatClampNeg)), (0, .ref 130), (1, .int i1), (2, .int i2), (3, .int i3)]) dX12_worked_30 (by decide) rfl ?_
    refine x_iload dX12_worked_32 0 rfl ?_
    refine x_bipush (v := 28) dX12_worked_34 (by decide) ?_
    refine x_ic_eq 46 dX12_worked_36 (by decide) (fun c2 => ?_) (fun c2 => ?_)
    · exact EX.sub [1, 2, 3, 4, 0] (k2 c1 c2) rfl
    · refine x_iload dX12_worked_39 0 rfl ?_
      refine x_bipush (v := 30) dX12_worked_41 (by decide) ?_
      refine x_ic_ne 75 dX12_worked_43 (by decide) (fun c3 => ?_) (fun c3 => ?_)
      · refine x_iload dX12_worked_75 0 rfl ?_
        refine x_bipush (v := 20) dX12_worked_77 (by decide) ?_
        refine x_ic_eq 89 dX12_worked_79 (by decide) (fun c4 => ?_) (fun c4 => ?_)
        · refine x_aload_n dX12_worked_89 1 rfl ?_
          refine x_iload_n dX12_worked_90 3 rfl ?_
          refine EX.sub [1, 2, 3, 4, 0] (K0.v (As := [.int i2]) (st := []) cvX12_216 dX12_worked_91 rfl rfl f1 rfl (Nat.le_of_ble_eq_true rfl) (k3 c1 c2 c3 c4)) rfl
        · refine x_iload dX12_worked_82 0 rfl ?_
          refine x_bipush (v := 21) dX12_worked_84 (by decide) ?_
          refine x_ic_ne 105 dX12_worked_86 (by decide) (fun c5 => ?_) (fun c5 => ?_)
          · refine x_iload dX12_worked_105 0 rfl ?_
            refine x_bipush (v := 22) dX12_worked_107 (by decide) ?_
            refine x_ic_ne 123 dX12_worked_109 (by decide) (fun c6 => ?_) (fun c6 => ?_)
            · refine x_iload dX12_worked_123 0 rfl ?_
              refine x_bipush (v := 24) dX12_worked_125 (by decide) ?_
              refine x_ic_eq 137 dX12_worked_127 (by decide) (fun c7 => ?_) (fun c7 => ?_)
              · refine x_aload_n dX12_worked_137 1 rfl ?_
                refine x_iload_n dX12_worked_138 3 rfl ?_
                refine EX.sub [1, 2, 3, 4, 0] (K0.v (As := [.int i2]) (st := []) cvX12_216 dX12_worked_139 rfl rfl f1 rfl (Nat.le_of_ble_eq_true rfl) (k4 c1 c2 c3 c4 c5 c6 c7)) rfl
              · refine x_iload dX12_worked_130 0 rfl ?_
                refine x_bipush (v := 25) dX12_worked_132 (by decide) ?_
                refine x_ic_ne 180 dX12_worked_134 (by decide) (fun c8 => ?_) (fun c8 => ?_)
                · refine x_iload dX12_worked_180 0 rfl ?_
                  refine x_bipush (v := 26) dX12_worked_182 (by decide) ?_
                  refine x_ic_eq 194 dX12_worked_184 (by decide) (fun c9 => ?_) (fun c9 => ?_)
                  · refine x_aload_n dX12_worked_194 1 rfl ?_
                    refine x_iload_n dX12_worked_195 3 rfl ?_
                    refine EX.sub [1, 2, 3, 4, 0] (K0.v (As := [.int i2]) (st := []) cvX12_222 dX12_worked_196 rfl rfl f1 rfl (Nat.le_of_ble_eq_true rfl) (k5 c1 c2 c3 c4 c5 c6 c7 c8 c9)) rfl
                  · refine x_iload dX12_worked_187 0 rfl ?_
                    refine x_bipush (v := 27) dX12_worked_189 (by decide) ?_
                    refine x_ic_ne 210 dX12_worked_191 (by decide) (fun c10 => ?_) (fun c10 => ?_)
                    · refine x_iload dX12_worked_210 0 rfl ?_
                      refine x_bipush (v := 100) dX12_worked_212 (by decide) ?_
                      refine x_ic_lt 225 dX12_worked_214 (by decide) (fun c11 => ?_) (fun c11 => ?_)
                      · refine x_iload dX12_worked_225 0 rfl ?_
                        refine x_bipush (v := 20) dX12_worked_227 (by decide) ?_
                        refine x_ic_ge 242 dX12_worked_229 (by decide) (fun c12 => ?_) (fun c12 => ?_)
                        · refine x_iconst (v := 0) dX12_worked_242 (by decide) ?_
                          exact EX.sub [1, 2, 3, 4, 0] (k6 c1 c2 c3 c4 c5 c6 c7 c8 c9 c10 c11 c12) rfl
                        · refine x_aload_n dX12_worked_232 1 rfl ?_
                          refine x_getR fdX12_78 rfl dX12_worked_233 f1.1 f1.2 f6 ?_
                          refine x_iload dX12_worked_236 0 rfl ?_
                          refine x_iald dX12_worked_238 f7.1 f7.2 (h3 c1 c2 c3 c4 c5 c6 c7 c8 c9 c10 c11 c12) ?_
                          refine x_goto 243 dX12_worked_239 (by decide) ?_
                          exact EX.sub [1, 2, 3, 4, 0] (k7 c1 c2 c3 c4 c5 c6 c7 c8 c9 c10 c11 c12) rfl
                      · refine x_iload dX12_worked_217 0 rfl ?_
                        refine x_bipush (v := 100) dX12_worked_219 (by decide) ?_
                        refine x_isub dX12_worked_221 ?_
                        refine x_goto 243 dX12_worked_222 (by decide) ?_
                        exact EX.sub [1, 2, 3, 4, 0] (k8 c1 c2 c3 c4 c5 c6 c7 c8 c9 c10 c11) rfl
                    · refine x_aload_n dX12_worked_194 1 rfl ?_
                      refine x_iload_n dX12_worked_195 3 rfl ?_
                      refine EX.sub [1, 2, 3, 4, 0] (K0.v (As := [.int i2]) (st := []) cvX12_222 dX12_worked_196 rfl rfl f1 rfl (Nat.le_of_ble_eq_true rfl) (k9 c1 c2 c3 c4 c5 c6 c7 c8 c9 c10)) rfl
                · refine x_aload_n dX12_worked_137 1 rfl ?_
                  refine x_iload_n dX12_worked_138 3 rfl ?_
                  refine EX.sub [1, 2, 3, 4, 0] (K0.v (As := [.int i2]) (st := []) cvX12_216 dX12_worked_139 rfl rfl f1 rfl (Nat.le_of_ble_eq_true rfl) (k10 c1 c2 c3 c4 c5 c6 c7 c8)) rfl
            · refine x_aload_n dX12_worked_112 1 rfl ?_
              refine x_getR fdX12_72 rfl dX12_worked_113 f1.1 f1.2 f8 ?_
              refine x_iload_n dX12_worked_116 3 rfl ?_
              refine x_iload dX12_worked_117 0 rfl ?_
              refine x_iast dX12_worked_119 f9.1 f9.2 (h4 c1 c2 c3 c4 c5 c6) ?_
              refine x_goto 329 dX12_worked_120 (by decide) ?_
              exact EX.sub [1, 2, 3, 4] (k11 c1 c2 c3 c4 c5 c6) rfl
          · refine x_aload_n dX12_worked_89 1 rfl ?_
            refine x_iload_n dX12_worked_90 3 rfl ?_
            refine EX.sub [1, 2, 3, 4, 0] (K0.v (As := [.int i2]) (st := []) cvX12_216 dX12_worked_91 rfl rfl f1 rfl (Nat.le_of_ble_eq_true rfl) (k12 c1 c2 c3 c4 c5)) rfl
      · exact EX.sub [1, 2, 3, 4, 0] (k13 c1 c2 c3) rfl
set_option maxRecDepth 8000 in
theorem qX12_worked_46 {g : GG} {d : Nat} {M : MM} {P : Option Value → MM → Prop} {i1 : Int32} {i2 : Int32} {i3 : Int32} {i4 : Int32} {M1 : MM} {M2 : MM} {la lb pa pb rl : Nat} (L : Lay M la lb pa pb rl)
    (qM1 : M1 = wi M 152 ((i2 + 1) : Int32).toNatClampNeg 0)
    (qM2 : M2 = wi M 152 ((i2 + 1) : Int32).toNatClampNeg 1)
    (h1 : ¬ i4 = 30 → vp_in (i2 + 1) 7)
    (h2 : i4 = 30 → vp_in (i2 + 1) 7)
    (k1 : ¬ i4 = 30 → K0 g YX12_worked YX12_opens d 72 [.ref 130, .int (i2 + 1)] [(0, .ref 130), (1, .int i1), (2, .int (i2 + 1)), (3, .int i3)] [] M1 P)
    (k2 : i4 = 30 → K0 g YX12_worked YX12_opens d 72 [.ref 130, .int (i2 + 1)] [(0, .ref 130), (1, .int i1), (2, .int (i2 + 1)), (3, .int i3)] [] M2 P) :
    E0 g YX12_worked d 46 [(0, .ref 130), (1, .int i1), (2, .int i2), (3, .int i3), (4, .int i4)] [] M P := by
  have f1 : ob M 130 12 := L.s rfl (by decide)
  have f2 : mr M 130 31 = some 152 := L.r 147 rfl
  have f3 : ar M 152 1 7 := L.s rfl (by decide)
  subst qM1 qM2
  refine x_iinc (v := (i2 + 1)) (lv1 := [(2, .int (i2 + 1)), (0, .ref 130), (1, .int i1), (3, .int i3), (4, .int i4)]) dX12_worked_46 2 rfl rfl (by decide) rfl ?_
  refine x_aload_n dX12_worked_49 1 rfl ?_
  refine x_getR fdX12_75 rfl dX12_worked_50 f1.1 f1.2 f2 ?_
  refine x_iload_n dX12_worked_53 0 rfl ?_
  refine x_iload dX12_worked_54 4 rfl ?_
  refine x_bipush (v := 30) dX12_worked_56 (by decide) ?_
  refine x_ic_ne 65 dX12_worked_58 (by decide) (fun c1 => ?_) (fun c1 => ?_)
  · refine x_iconst (v := 0) dX12_worked_65 (by decide) ?_
    refine x_iast dX12_worked_66 f3.1 f3.2 (h1 c1) ?_
    refine x_aload_n dX12_worked_67 1 rfl ?_
    refine x_iload_n dX12_worked_68 0 rfl ?_
    refine EX.sub [1, 2, 0, 3] (K0.v (As := [.int (i2 + 1)]) (st := []) cvX12_219 dX12_worked_69 rfl rfl f1 rfl (Nat.le_of_ble_eq_true rfl) (k1 c1)) rfl
  · refine x_iconst (v := 1) dX12_worked_61 (by decide) ?_
    refine x_goto 66 dX12_worked_62 (by decide) ?_
    refine x_iast dX12_worked_66 f3.1 f3.2 (h2 c1) ?_
    refine x_aload_n dX12_worked_67 1 rfl ?_
    refine x_iload_n dX12_worked_68 0 rfl ?_
    refine EX.sub [1, 2, 0, 3] (K0.v (As := [.int (i2 + 1)]) (st := []) cvX12_219 dX12_worked_69 rfl rfl f1 rfl (Nat.le_of_ble_eq_true rfl) (k2 c1)) rfl
set_option maxRecDepth 8000 in
theorem qX12_worked_72 {g : GG} {d : Nat} {M : MM} {P : Option Value → MM → Prop} {i1 : Int32} {i2 : Int32} {i3 : Int32}
    (k1 : E0 g YX12_worked d 329 [(0, .ref 130), (1, .int i1), (2, .int i2), (3, .int i3)] [] M P) :
    E0 g YX12_worked d 72 [(0, .ref 130), (1, .int i1), (2, .int i2), (3, .int i3)] [] M P := by
  refine x_goto 329 dX12_worked_72 (by decide) ?_
  exact EX.sub [0, 1, 2, 3] k1 rfl
set_option maxRecDepth 8000 in
theorem qX12_worked_94 {g : GG} {d : Nat} {M : MM} {P : Option Value → MM → Prop} {i1 : Int32} {i2 : Int32} {i3 : Int32} {i4 : Int32} {M1 : MM} {la lb pa pb rl : Nat} (L : Lay M la lb pa pb rl)
    (qM1 : M1 = wi M 149 (i2 : Int32).toNatClampNeg i4)
    (h1 : vp_in i2 7)
    (k1 : E0 g YX12_worked d 329 [(0, .ref 130), (1, .int i1), (2, .int i2), (3, .int i3)] [] M1 P) :
    E0 g YX12_worked d 94 [(0, .ref 130), (1, .int i1), (2, .int i2), (3, .int i3), (4, .int i4)] [] M P := by
  have f1 : ob M 130 12 := L.s rfl (by decide)
  have f2 : mr M 130 28 = some 149 := L.r 144 rfl
  have f3 : ar M 149 1 7 := L.s rfl (by decide)
  subst qM1
  refine x_aload_n dX12_worked_94 0 rfl ?_
  refine x_getR fdX12_66 rfl dX12_worked_95 f1.1 f1.2 f2 ?_
  refine x_iload_n dX12_worked_98 2 rfl ?_
  refine x_iload dX12_worked_99 4 rfl ?_
  refine x_iast dX12_worked_101 f3.1 f3.2 (h1) ?_
  refine x_goto 329 dX12_worked_102 (by decide) ?_
  exact EX.sub [0, 1, 2, 3] k1 rfl
set_option maxRecDepth 8000 in
theorem qX12_worked_142 {g : GG} {d : Nat} {M : MM} {P : Option Value → MM → Prop} {i1 : Int32} {i2 : Int32} {i3 : Int32} {i4 : Int32} {M1 : MM} {M2 : MM} {M3 : MM} {M4 : MM} {la lb pa pb rl : Nat} (L : Lay M la lb pa pb rl)
    (qM1 : M1 = wi M 146 (i2 : Int32).toNatClampNeg (mi M 148 (i2 : Int32).toNatClampNeg))
    (qM2 : M2 = wi M1 147 (i2 : Int32).toNatClampNeg i4)
    (qM3 : M3 = wi M2 148 (i2 : Int32).toNatClampNeg 0)
    (qM4 : M4 = wi M3 149 (i2 : Int32).toNatClampNeg 20)
    (h1 : vp_in i2 7)
    (h2 : vp_in i2 7)
    (h3 : vp_in i2 7)
    (h4 : vp_in i2 7)
    (k1 : E0 g YX12_worked d 329 [(0, .ref 130), (1, .int i1), (2, .int i2), (3, .int i3)] [] M4 P) :
    E0 g YX12_worked d 142 [(0, .ref 130), (1, .int i1), (2, .int i2), (3, .int i3), (4, .int i4)] [] M P := by
  have f1 : ob M 130 12 := L.s rfl (by decide)
  have f2 : mr M 130 25 = some 146 := L.r 141 rfl
  have f3 : mr M 130 27 = some 148 := L.r 143 rfl
  have f4 : ar M 148 1 7 := L.s rfl (by decide)
  have f5 : ar M 146 1 7 := L.s rfl (by decide)
  have f6 : mr M 130 26 = some 147 := L.r 142 rfl
  have f7 : ar M 147 1 7 := L.s rfl (by decide)
  have f8 : mr M 130 28 = some 149 := L.r 144 rfl
  have f9 : ar M 149 1 7 := L.s rfl (by decide)
  subst qM1 qM2 qM3 qM4
  refine x_aload_n dX12_worked_142 0 rfl ?_
  refine x_getR fdX12_57 rfl dX12_worked_143 f1.1 f1.2 f2 ?_
  refine x_iload_n dX12_worked_146 2 rfl ?_
  refine x_aload_n dX12_worked_147 0 rfl ?_
  refine x_getR fdX12_63 rfl dX12_worked_148 f1.1 f1.2 f3 ?_
  refine x_iload_n dX12_worked_151 2 rfl ?_
  refine x_iald dX12_worked_152 f4.1 f4.2 (h1) ?_
  refine x_iast dX12_worked_153 f5.1 f5.2 (h2) ?_
  refine x_aload_n dX12_worked_154 0 rfl ?_
  refine x_getR fdX12_60 rfl dX12_worked_155 f1.1 f1.2 f6 ?_
  refine x_iload_n dX12_worked_158 2 rfl ?_
  refine x_iload dX12_worked_159 4 rfl ?_
  refine x_iast dX12_worked_161 f7.1 f7.2 (h3) ?_
  refine x_aload_n dX12_worked_162 0 rfl ?_
  refine x_getR fdX12_63 rfl dX12_worked_163 f1.1 f1.2 f3 ?_
  refine x_iload_n dX12_worked_166 2 rfl ?_
  refine x_iconst (v := 0) dX12_worked_167 (by decide) ?_
  refine x_iast dX12_worked_168 f4.1 f4.2 (h1) ?_
  refine x_aload_n dX12_worked_169 0 rfl ?_
  refine x_getR fdX12_66 rfl dX12_worked_170 f1.1 f1.2 f8 ?_
  refine x_iload_n dX12_worked_173 2 rfl ?_
  refine x_bipush (v := 20) dX12_worked_174 (by decide) ?_
  refine x_iast dX12_worked_176 f9.1 f9.2 (h4) ?_
  refine x_goto 329 dX12_worked_177 (by decide) ?_
  exact EX.sub [0, 1, 2, 3] k1 rfl
set_option maxRecDepth 8000 in
theorem qX12_worked_199 {g : GG} {d : Nat} {M : MM} {P : Option Value → MM → Prop} {i1 : Int32} {i2 : Int32} {i3 : Int32} {i4 : Int32} {M1 : MM} {la lb pa pb rl : Nat} (L : Lay M la lb pa pb rl)
    (qM1 : M1 = wi M 145 (i2 : Int32).toNatClampNeg i4)
    (h1 : vp_in i2 7)
    (k1 : E0 g YX12_worked d 329 [(0, .ref 130), (1, .int i1), (2, .int i2), (3, .int i3)] [] M1 P) :
    E0 g YX12_worked d 199 [(0, .ref 130), (1, .int i1), (2, .int i2), (3, .int i3), (4, .int i4)] [] M P := by
  have f1 : ob M 130 12 := L.s rfl (by decide)
  have f2 : mr M 130 24 = some 145 := L.r 140 rfl
  have f3 : ar M 145 1 7 := L.s rfl (by decide)
  subst qM1
  refine x_aload_n dX12_worked_199 0 rfl ?_
  refine x_getR fdX12_54 rfl dX12_worked_200 f1.1 f1.2 f2 ?_
  refine x_iload_n dX12_worked_203 2 rfl ?_
  refine x_iload dX12_worked_204 4 rfl ?_
  refine x_iast dX12_worked_206 f3.1 f3.2 (h1) ?_
  refine x_goto 329 dX12_worked_207 (by decide) ?_
  exact EX.sub [0, 1, 2, 3] k1 rfl
set_option maxRecDepth 8000 in
theorem qX12_worked_243 {g : GG} {d : Nat} {M : MM} {P : Option Value → MM → Prop} {i1 : Int32} {i2 : Int32} {i3 : Int32} {i4 : Int32} {s0 : Int32} {la lb pa pb rl : Nat} (L : Lay M la lb pa pb rl)
    (k1 : ¬ i4 = 29 → E0 g YX12_worked d 268 [(0, .ref 130), (1, .int i1), (2, .int i2), (3, .int i3), (5, .int s0)] [] M P)
    (k2 : i4 = 29 → K0 g YX12_worked YX12_tests d 257 [.ref 130, .int i2] [(0, .ref 130), (1, .int i1), (2, .int i2), (3, .int i3)] [] M P) :
    E0 g YX12_worked d 243 [(0, .ref 130), (1, .int i1), (2, .int i2), (3, .int i3), (4, .int i4)] [.int s0] M P := by
  have f1 : ob M 130 12 := L.s rfl (by decide)
  refine x_istore (lv1 := [(5, .int s0), (0, .ref 130), (1, .int i1), (2, .int i2), (3, .int i3), (4, .int i4)]) dX12_worked_243 (by decide) rfl ?_
  refine x_iload dX12_worked_245 5 rfl ?_
  refine x_bipush (v := 29) dX12_worked_247 (by decide) ?_
  refine x_ic_ne 268 dX12_worked_249 (by decide) (fun c1 => ?_) (fun c1 => ?_)
  · exact EX.sub [1, 2, 3, 4, 0] (k1 c1) rfl
  · refine x_aload_n dX12_worked_252 1 rfl ?_
    refine x_iload_n dX12_worked_253 3 rfl ?_
    refine EX.sub [1, 2, 3, 4] (K0.v (As := [.int i2]) (st := []) cvX12_222 dX12_worked_254 rfl rfl f1 rfl (Nat.le_of_ble_eq_true rfl) (k2 c1)) rfl
set_option maxRecDepth 8000 in
theorem qX12_worked_257 {g : GG} {d : Nat} {M : MM} {P : Option Value → MM → Prop} {i1 : Int32} {i2 : Int32} {i3 : Int32} {la lb pa pb rl : Nat} (L : Lay M la lb pa pb rl)
    (h1 : vp_in i2 7)
    (k1 : E0 g YX12_worked d 268 [(0, .ref 130), (1, .int i1), (2, .int (i2 + (-1))), (3, .int i3), (5, .int (mi M 144 (i2 : Int32).toNatClampNeg))] [] M P) :
    E0 g YX12_worked d 257 [(0, .ref 130), (1, .int i1), (2, .int i2), (3, .int i3)] [] M P := by
  have f1 : ob M 130 12 := L.s rfl (by decide)
  have f2 : mr M 130 23 = some 144 := L.r 139 rfl
  have f3 : ar M 144 1 7 := L.s rfl (by decide)
  refine x_aload_n dX12_worked_257 0 rfl ?_
  refine x_getR fdX12_51 rfl dX12_worked_258 f1.1 f1.2 f2 ?_
  refine x_iload_n dX12_worked_261 2 rfl ?_
  refine x_iald dX12_worked_262 f3.1 f3.2 (h1) ?_
  refine x_istore (lv1 := [(5, .int (mi M 144 (i2 : Int32).toNatClampNeg)), (0, .ref 130), (1, .int i1), (2, .int i2), (3, .int i3)]) dX12_worked_263 (by decide) rfl ?_
  refine x_iinc (v := (i2 + (-1))) (lv1 := [(2, .int (i2 + (-1))), (5, .int (mi M 144 (i2 : Int32).toNatClampNeg)), (0, .ref 130), (1, .int i1), (3, .int i3)]) dX12_worked_265 3 rfl rfl (by decide) rfl ?_
  exact EX.sub [2, 3, 0, 4, 1] k1 rfl
set_option maxRecDepth 8000 in
theorem qX12_worked_268 {g : GG} {d : Nat} {M : MM} {P : Option Value → MM → Prop} {i1 : Int32} {i2 : Int32} {i3 : Int32} {i5 : Int32} {M1 : MM} {M2 : MM} {M3 : MM} {M4 : MM} {la lb pa pb rl : Nat} (L : Lay M la lb pa pb rl)
    (qM1 : M1 = wi M 150 (i2 : Int32).toNatClampNeg ((mi M 150 (i2 : Int32).toNatClampNeg) * i5))
    (qM2 : M2 = wi M 150 (i2 : Int32).toNatClampNeg i5)
    (qM3 : M3 = wi M 150 (i2 : Int32).toNatClampNeg ((mi M 150 (i2 : Int32).toNatClampNeg) * i5))
    (qM4 : M4 = wi M 150 (i2 : Int32).toNatClampNeg i5)
    (h1 : i2 ≤ 0 → vp_in i2 7)
    (h2 : i2 ≤ 0 → ¬ (mi M 151 (i2 : Int32).toNatClampNeg) = 0 → vp_in i2 7)
    (h3 : i2 ≤ 0 → (mi M 151 (i2 : Int32).toNatClampNeg) = 0 → vp_in i2 7)
    (h4 : ¬ (i2 ≤ 0) → vp_in i2 7)
    (h5 : ¬ (i2 ≤ 0) → ¬ (mi M 152 (i2 : Int32).toNatClampNeg) = 1 → vp_in i2 7)
    (h6 : ¬ (i2 ≤ 0) → ¬ (mi M 152 (i2 : Int32).toNatClampNeg) = 1 → ¬ (mi M 151 (i2 : Int32).toNatClampNeg) = 0 → vp_in i2 7)
    (h7 : ¬ (i2 ≤ 0) → ¬ (mi M 152 (i2 : Int32).toNatClampNeg) = 1 → (mi M 151 (i2 : Int32).toNatClampNeg) = 0 → vp_in i2 7)
    (k1 : i2 ≤ 0 → ¬ (mi M 151 (i2 : Int32).toNatClampNeg) = 0 → E0 g YX12_worked d 329 [(0, .ref 130), (1, .int i1), (2, .int i2), (3, .int i3)] [] M1 P)
    (k2 : i2 ≤ 0 → (mi M 151 (i2 : Int32).toNatClampNeg) = 0 → E0 g YX12_worked d 329 [(0, .ref 130), (1, .int i1), (2, .int i2), (3, .int i3)] [] M2 P)
    (k3 : ¬ (i2 ≤ 0) → ¬ (mi M 152 (i2 : Int32).toNatClampNeg) = 1 → ¬ (mi M 151 (i2 : Int32).toNatClampNeg) = 0 → E0 g YX12_worked d 329 [(0, .ref 130), (1, .int i1), (2, .int i2), (3, .int i3)] [] M3 P)
    (k4 : ¬ (i2 ≤ 0) → ¬ (mi M 152 (i2 : Int32).toNatClampNeg) = 1 → (mi M 151 (i2 : Int32).toNatClampNeg) = 0 → E0 g YX12_worked d 329 [(0, .ref 130), (1, .int i1), (2, .int i2), (3, .int i3)] [] M4 P)
    (k5 : ¬ (i2 ≤ 0) → (mi M 152 (i2 : Int32).toNatClampNeg) = 1 → ¬ i5 = 0 → E0 g YX12_worked d 268 [(0, .ref 130), (1, .int i1), (2, .int (i2 + (-1))), (3, .int i3), (5, .int 0)] [] M P)
    (k6 : ¬ (i2 ≤ 0) → (mi M 152 (i2 : Int32).toNatClampNeg) = 1 → i5 = 0 → E0 g YX12_worked d 268 [(0, .ref 130), (1, .int i1), (2, .int (i2 + (-1))), (3, .int i3), (5, .int 1)] [] M P) :
    E0 g YX12_worked d 268 [(0, .ref 130), (1, .int i1), (2, .int i2), (3, .int i3), (5, .int i5)] [] M P := by
  have f1 : ob M 130 12 := L.s rfl (by decide)
  have f2 : mr M 130 29 = some 150 := L.r 145 rfl
  have f3 : mr M 130 30 = some 151 := L.r 146 rfl
  have f4 : ar M 151 1 7 := L.s rfl (by decide)
  have f5 : ar M 150 1 7 := L.s rfl (by decide)
  have f6 : mr M 130 31 = some 152 := L.r 147 rfl
  have f7 : ar M 152 1 7 := L.s rfl (by decide)
  subst qM1 qM2 qM3 qM4
  refine x_iload_n dX12_worked_268 2 rfl ?_
  refine x_if_le 300 dX12_worked_269 (by decide) (fun c1 => ?_) (fun c1 => ?_)
  · refine x_aload_n dX12_worked_300 0 rfl ?_
    refine x_getR fdX12_69 rfl dX12_worked_301 f1.1 f1.2 f2 ?_
    refine x_iload_n dX12_worked_304 2 rfl ?_
    refine x_aload_n dX12_worked_305 0 rfl ?_
    refine x_getR fdX12_72 rfl dX12_worked_306 f1.1 f1.2 f3 ?_
    refine x_iload_n dX12_worked_309 2 rfl ?_
    refine x_iald dX12_worked_310 f4.1 f4.2 (h1 c1) ?_
    refine x_if_ne 319 dX12_worked_311 (by decide) (fun c2 => ?_) (fun c2 => ?_)
    · refine x_aload_n dX12_worked_319 0 rfl ?_
      refine x_getR fdX12_69 rfl dX12_worked_320 f1.1 f1.2 f2 ?_
      refine x_iload_n dX12_worked_323 2 rfl ?_
      refine x_iald dX12_worked_324 f5.1 f5.2 (h2 c1 c2) ?_
      refine x_iload dX12_worked_325 4 rfl ?_
      refine x_imul dX12_worked_327 ?_
      refine x_iast dX12_worked_328 f5.1 f5.2 (h2 c1 c2) ?_
      exact EX.sub [0, 1, 2, 3] (k1 c1 c2) rfl
    · refine x_iload dX12_worked_314 4 rfl ?_
      refine x_goto 328 dX12_worked_316 (by decide) ?_
      refine x_iast dX12_worked_328 f5.1 f5.2 (h3 c1 c2) ?_
      exact EX.sub [0, 1, 2, 3] (k2 c1 c2) rfl
  · refine x_aload_n dX12_worked_272 0 rfl ?_
    refine x_getR fdX12_75 rfl dX12_worked_273 f1.1 f1.2 f6 ?_
    refine x_iload_n dX12_worked_276 2 rfl ?_
    refine x_iald dX12_worked_277 f7.1 f7.2 (h4 c1) ?_
    refine x_iconst (v := 1) dX12_worked_278 (by decide) ?_
    refine x_ic_ne 300 dX12_worked_279 (by decide) (fun c2 => ?_) (fun c2 => ?_)
    · refine x_aload_n dX12_worked_300 0 rfl ?_
      refine x_getR fdX12_69 rfl dX12_worked_301 f1.1 f1.2 f2 ?_
      refine x_iload_n dX12_worked_304 2 rfl ?_
      refine x_aload_n dX12_worked_305 0 rfl ?_
      refine x_getR fdX12_72 rfl dX12_worked_306 f1.1 f1.2 f3 ?_
      refine x_iload_n dX12_worked_309 2 rfl ?_
      refine x_iald dX12_worked_310 f4.1 f4.2 (h5 c1 c2) ?_
      refine x_if_ne 319 dX12_worked_311 (by decide) (fun c3 => ?_) (fun c3 => ?_)
      · refine x_aload_n dX12_worked_319 0 rfl ?_
        refine x_getR fdX12_69 rfl dX12_worked_320 f1.1 f1.2 f2 ?_
        refine x_iload_n dX12_worked_323 2 rfl ?_
        refine x_iald dX12_worked_324 f5.1 f5.2 (h6 c1 c2 c3) ?_
        refine x_iload dX12_worked_325 4 rfl ?_
        refine x_imul dX12_worked_327 ?_
        refine x_iast dX12_worked_328 f5.1 f5.2 (h6 c1 c2 c3) ?_
        exact EX.sub [0, 1, 2, 3] (k3 c1 c2 c3) rfl
      · refine x_iload dX12_worked_314 4 rfl ?_
        refine x_goto 328 dX12_worked_316 (by decide) ?_
        refine x_iast dX12_worked_328 f5.1 f5.2 (h7 c1 c2 c3) ?_
        exact EX.sub [0, 1, 2, 3] (k4 c1 c2 c3) rfl
    · refine x_iload dX12_worked_282 4 rfl ?_
      refine x_if_ne 291 dX12_worked_284 (by decide) (fun c3 => ?_) (fun c3 => ?_)
      · refine x_iconst (v := 0) dX12_worked_291 (by decide) ?_
        refine x_istore (lv1 := [(5, .int 0), (0, .ref 130), (1, .int i1), (2, .int i2), (3, .int i3)]) dX12_worked_292 (by decide) rfl ?_
        refine x_iinc (v := (i2 + (-1))) (lv1 := [(2, .int (i2 + (-1))), (5, .int 0), (0, .ref 130), (1, .int i1), (3, .int i3)]) dX12_worked_294 3 rfl rfl (by decide) rfl ?_
        refine x_goto 268 dX12_worked_297 (by decide) ?_
        exact EX.sub [2, 3, 0, 4, 1] (k5 c1 c2 c3) rfl
      · refine x_iconst (v := 1) dX12_worked_287 (by decide) ?_
        refine x_goto 292 dX12_worked_288 (by decide) ?_
        refine x_istore (lv1 := [(5, .int 1), (0, .ref 130), (1, .int i1), (2, .int i2), (3, .int i3)]) dX12_worked_292 (by decide) rfl ?_
        refine x_iinc (v := (i2 + (-1))) (lv1 := [(2, .int (i2 + (-1))), (5, .int 1), (0, .ref 130), (1, .int i1), (3, .int i3)]) dX12_worked_294 3 rfl rfl (by decide) rfl ?_
        refine x_goto 268 dX12_worked_297 (by decide) ?_
        exact EX.sub [2, 3, 0, 4, 1] (k6 c1 c2 c3) rfl
set_option maxRecDepth 8000 in
theorem qX12_worked_329 {g : GG} {d : Nat} {M : MM} {P : Option Value → MM → Prop} {i1 : Int32} {i2 : Int32} {i3 : Int32}
    (k1 : E0 g YX12_worked d 14 [(0, .ref 130), (1, .int i1), (2, .int i2), (3, .int (i3 + 1))] [] M P) :
    E0 g YX12_worked d 329 [(0, .ref 130), (1, .int i1), (2, .int i2), (3, .int i3)] [] M P := by
  refine x_iinc (v := (i3 + 1)) (lv1 := [(3, .int (i3 + 1)), (0, .ref 130), (1, .int i1), (2, .int i2)]) dX12_worked_329 3 rfl rfl (by decide) rfl ?_
  refine x_goto 14 dX12_worked_332 (by decide) ?_
  exact EX.sub [1, 2, 3, 0] k1 rfl
set_option maxRecDepth 8000 in
theorem qX12_worked_340 {g : GG} {d : Nat} {M : MM} {P : Option Value → MM → Prop}  {la lb pa pb rl : Nat} (L : Lay M la lb pa pb rl)
    (k1 : P (some (.int (mi M 144 0))) M) :
    E0 g YX12_worked d 340 [(0, .ref 130)] [] M P := by
  have f1 : ob M 130 12 := L.s rfl (by decide)
  have f2 : mr M 130 23 = some 144 := L.r 139 rfl
  have f3 : ar M 144 1 7 := L.s rfl (by decide)
  refine x_aload_n dX12_worked_340 0 rfl ?_
  refine x_getR fdX12_51 rfl dX12_worked_341 f1.1 f1.2 f2 ?_
  refine x_iconst (v := 0) dX12_worked_344 (by decide) ?_
  refine x_iald dX12_worked_345 f3.1 f3.2 (by unfold vp_in; decide) ?_
  exact x_iret rfl dX12_worked_346 (Nat.le_refl _) (Nat.le_refl _) (k1)
set_option maxRecDepth 8000 in
theorem qX12_isKept_0 {g : GG} {d : Nat} {M : MM} {P : Option Value → MM → Prop}  {la lb pa pb rl : Nat} (L : Lay M la lb pa pb rl)
    (k1 : (mi M 130 6) = 1 → (lg_cmp (mj M 130 7) (380234)) = 0 → E0 g YX12_isKept d 197 [] [] M P)
    (k2 : (mi M 130 6) = 1 → ¬ ((lg_cmp (mj M 130 7) (380234)) = 0) → (lg_cmp (mj M 130 7) (385418)) = 0 → E0 g YX12_isKept d 197 [] [] M P)
    (k3 : (mi M 130 6) = 1 → ¬ ((lg_cmp (mj M 130 7) (380234)) = 0) → ¬ ((lg_cmp (mj M 130 7) (385418)) = 0) → (lg_cmp (mj M 130 7) (247516)) = 0 → E0 g YX12_isKept d 197 [] [] M P)
    (k4 : (mi M 130 6) = 1 → ¬ ((lg_cmp (mj M 130 7) (380234)) = 0) → ¬ ((lg_cmp (mj M 130 7) (385418)) = 0) → ¬ ((lg_cmp (mj M 130 7) (247516)) = 0) → (lg_cmp (mj M 130 7) (7542361)) = 0 → E0 g YX12_isKept d 197 [] [] M P)
    (k5 : (mi M 130 6) = 1 → ¬ ((lg_cmp (mj M 130 7) (380234)) = 0) → ¬ ((lg_cmp (mj M 130 7) (385418)) = 0) → ¬ ((lg_cmp (mj M 130 7) (247516)) = 0) → ¬ ((lg_cmp (mj M 130 7) (7542361)) = 0) → (lg_cmp (mj M 130 7) (158529)) = 0 → E0 g YX12_isKept d 197 [] [] M P)
    (k6 : (mi M 130 6) = 1 → ¬ ((lg_cmp (mj M 130 7) (380234)) = 0) → ¬ ((lg_cmp (mj M 130 7) (385418)) = 0) → ¬ ((lg_cmp (mj M 130 7) (247516)) = 0) → ¬ ((lg_cmp (mj M 130 7) (7542361)) = 0) → ¬ ((lg_cmp (mj M 130 7) (158529)) = 0) → (lg_cmp (mj M 130 7) (4285945)) = 0 → E0 g YX12_isKept d 197 [] [] M P)
    (k7 : (mi M 130 6) = 1 → ¬ ((lg_cmp (mj M 130 7) (380234)) = 0) → ¬ ((lg_cmp (mj M 130 7) (385418)) = 0) → ¬ ((lg_cmp (mj M 130 7) (247516)) = 0) → ¬ ((lg_cmp (mj M 130 7) (7542361)) = 0) → ¬ ((lg_cmp (mj M 130 7) (158529)) = 0) → ¬ ((lg_cmp (mj M 130 7) (4285945)) = 0) → (lg_cmp (mj M 130 7) (380237)) = 0 → E0 g YX12_isKept d 197 [] [] M P)
    (k8 : (mi M 130 6) = 1 → ¬ ((lg_cmp (mj M 130 7) (380234)) = 0) → ¬ ((lg_cmp (mj M 130 7) (385418)) = 0) → ¬ ((lg_cmp (mj M 130 7) (247516)) = 0) → ¬ ((lg_cmp (mj M 130 7) (7542361)) = 0) → ¬ ((lg_cmp (mj M 130 7) (158529)) = 0) → ¬ ((lg_cmp (mj M 130 7) (4285945)) = 0) → ¬ ((lg_cmp (mj M 130 7) (380237)) = 0) → (lg_cmp (mj M 130 7) (144941)) = 0 → E0 g YX12_isKept d 197 [] [] M P)
    (k9 : (mi M 130 6) = 1 → ¬ ((lg_cmp (mj M 130 7) (380234)) = 0) → ¬ ((lg_cmp (mj M 130 7) (385418)) = 0) → ¬ ((lg_cmp (mj M 130 7) (247516)) = 0) → ¬ ((lg_cmp (mj M 130 7) (7542361)) = 0) → ¬ ((lg_cmp (mj M 130 7) (158529)) = 0) → ¬ ((lg_cmp (mj M 130 7) (4285945)) = 0) → ¬ ((lg_cmp (mj M 130 7) (380237)) = 0) → ¬ ((lg_cmp (mj M 130 7) (144941)) = 0) → (lg_cmp (mj M 130 7) (10983956)) = 0 → E0 g YX12_isKept d 197 [] [] M P)
    (k10 : (mi M 130 6) = 1 → ¬ ((lg_cmp (mj M 130 7) (380234)) = 0) → ¬ ((lg_cmp (mj M 130 7) (385418)) = 0) → ¬ ((lg_cmp (mj M 130 7) (247516)) = 0) → ¬ ((lg_cmp (mj M 130 7) (7542361)) = 0) → ¬ ((lg_cmp (mj M 130 7) (158529)) = 0) → ¬ ((lg_cmp (mj M 130 7) (4285945)) = 0) → ¬ ((lg_cmp (mj M 130 7) (380237)) = 0) → ¬ ((lg_cmp (mj M 130 7) (144941)) = 0) → ¬ ((lg_cmp (mj M 130 7) (10983956)) = 0) → (lg_cmp (mj M 130 7) (409469)) = 0 → E0 g YX12_isKept d 197 [] [] M P)
    (k11 : (mi M 130 6) = 1 → ¬ ((lg_cmp (mj M 130 7) (380234)) = 0) → ¬ ((lg_cmp (mj M 130 7) (385418)) = 0) → ¬ ((lg_cmp (mj M 130 7) (247516)) = 0) → ¬ ((lg_cmp (mj M 130 7) (7542361)) = 0) → ¬ ((lg_cmp (mj M 130 7) (158529)) = 0) → ¬ ((lg_cmp (mj M 130 7) (4285945)) = 0) → ¬ ((lg_cmp (mj M 130 7) (380237)) = 0) → ¬ ((lg_cmp (mj M 130 7) (144941)) = 0) → ¬ ((lg_cmp (mj M 130 7) (10983956)) = 0) → ¬ ((lg_cmp (mj M 130 7) (409469)) = 0) → (lg_cmp (mj M 130 7) (8740238)) = 0 → E0 g YX12_isKept d 197 [] [] M P)
    (k12 : (mi M 130 6) = 1 → ¬ ((lg_cmp (mj M 130 7) (380234)) = 0) → ¬ ((lg_cmp (mj M 130 7) (385418)) = 0) → ¬ ((lg_cmp (mj M 130 7) (247516)) = 0) → ¬ ((lg_cmp (mj M 130 7) (7542361)) = 0) → ¬ ((lg_cmp (mj M 130 7) (158529)) = 0) → ¬ ((lg_cmp (mj M 130 7) (4285945)) = 0) → ¬ ((lg_cmp (mj M 130 7) (380237)) = 0) → ¬ ((lg_cmp (mj M 130 7) (144941)) = 0) → ¬ ((lg_cmp (mj M 130 7) (10983956)) = 0) → ¬ ((lg_cmp (mj M 130 7) (409469)) = 0) → ¬ ((lg_cmp (mj M 130 7) (8740238)) = 0) → (lg_cmp (mj M 130 7) (220307)) = 0 → E0 g YX12_isKept d 197 [] [] M P)
    (k13 : (mi M 130 6) = 1 → ¬ ((lg_cmp (mj M 130 7) (380234)) = 0) → ¬ ((lg_cmp (mj M 130 7) (385418)) = 0) → ¬ ((lg_cmp (mj M 130 7) (247516)) = 0) → ¬ ((lg_cmp (mj M 130 7) (7542361)) = 0) → ¬ ((lg_cmp (mj M 130 7) (158529)) = 0) → ¬ ((lg_cmp (mj M 130 7) (4285945)) = 0) → ¬ ((lg_cmp (mj M 130 7) (380237)) = 0) → ¬ ((lg_cmp (mj M 130 7) (144941)) = 0) → ¬ ((lg_cmp (mj M 130 7) (10983956)) = 0) → ¬ ((lg_cmp (mj M 130 7) (409469)) = 0) → ¬ ((lg_cmp (mj M 130 7) (8740238)) = 0) → ¬ ((lg_cmp (mj M 130 7) (220307)) = 0) → (lg_cmp (mj M 130 7) (47329743)) = 0 → E0 g YX12_isKept d 197 [] [] M P)
    (k14 : (mi M 130 6) = 1 → ¬ ((lg_cmp (mj M 130 7) (380234)) = 0) → ¬ ((lg_cmp (mj M 130 7) (385418)) = 0) → ¬ ((lg_cmp (mj M 130 7) (247516)) = 0) → ¬ ((lg_cmp (mj M 130 7) (7542361)) = 0) → ¬ ((lg_cmp (mj M 130 7) (158529)) = 0) → ¬ ((lg_cmp (mj M 130 7) (4285945)) = 0) → ¬ ((lg_cmp (mj M 130 7) (380237)) = 0) → ¬ ((lg_cmp (mj M 130 7) (144941)) = 0) → ¬ ((lg_cmp (mj M 130 7) (10983956)) = 0) → ¬ ((lg_cmp (mj M 130 7) (409469)) = 0) → ¬ ((lg_cmp (mj M 130 7) (8740238)) = 0) → ¬ ((lg_cmp (mj M 130 7) (220307)) = 0) → ¬ ((lg_cmp (mj M 130 7) (47329743)) = 0) → (lg_cmp (mj M 130 7) (7096239)) = 0 → E0 g YX12_isKept d 197 [] [] M P)
    (k15 : (mi M 130 6) = 1 → ¬ ((lg_cmp (mj M 130 7) (380234)) = 0) → ¬ ((lg_cmp (mj M 130 7) (385418)) = 0) → ¬ ((lg_cmp (mj M 130 7) (247516)) = 0) → ¬ ((lg_cmp (mj M 130 7) (7542361)) = 0) → ¬ ((lg_cmp (mj M 130 7) (158529)) = 0) → ¬ ((lg_cmp (mj M 130 7) (4285945)) = 0) → ¬ ((lg_cmp (mj M 130 7) (380237)) = 0) → ¬ ((lg_cmp (mj M 130 7) (144941)) = 0) → ¬ ((lg_cmp (mj M 130 7) (10983956)) = 0) → ¬ ((lg_cmp (mj M 130 7) (409469)) = 0) → ¬ ((lg_cmp (mj M 130 7) (8740238)) = 0) → ¬ ((lg_cmp (mj M 130 7) (220307)) = 0) → ¬ ((lg_cmp (mj M 130 7) (47329743)) = 0) → ¬ ((lg_cmp (mj M 130 7) (7096239)) = 0) → (lg_cmp (mj M 130 7) (10631)) = 0 → E0 g YX12_isKept d 197 [] [] M P)
    (k16 : (mi M 130 6) = 1 → ¬ ((lg_cmp (mj M 130 7) (380234)) = 0) → ¬ ((lg_cmp (mj M 130 7) (385418)) = 0) → ¬ ((lg_cmp (mj M 130 7) (247516)) = 0) → ¬ ((lg_cmp (mj M 130 7) (7542361)) = 0) → ¬ ((lg_cmp (mj M 130 7) (158529)) = 0) → ¬ ((lg_cmp (mj M 130 7) (4285945)) = 0) → ¬ ((lg_cmp (mj M 130 7) (380237)) = 0) → ¬ ((lg_cmp (mj M 130 7) (144941)) = 0) → ¬ ((lg_cmp (mj M 130 7) (10983956)) = 0) → ¬ ((lg_cmp (mj M 130 7) (409469)) = 0) → ¬ ((lg_cmp (mj M 130 7) (8740238)) = 0) → ¬ ((lg_cmp (mj M 130 7) (220307)) = 0) → ¬ ((lg_cmp (mj M 130 7) (47329743)) = 0) → ¬ ((lg_cmp (mj M 130 7) (7096239)) = 0) → ¬ ((lg_cmp (mj M 130 7) (10631)) = 0) → (lg_cmp (mj M 130 7) (1111)) = 0 → E0 g YX12_isKept d 197 [] [] M P)
    (k17 : (mi M 130 6) = 1 → ¬ ((lg_cmp (mj M 130 7) (380234)) = 0) → ¬ ((lg_cmp (mj M 130 7) (385418)) = 0) → ¬ ((lg_cmp (mj M 130 7) (247516)) = 0) → ¬ ((lg_cmp (mj M 130 7) (7542361)) = 0) → ¬ ((lg_cmp (mj M 130 7) (158529)) = 0) → ¬ ((lg_cmp (mj M 130 7) (4285945)) = 0) → ¬ ((lg_cmp (mj M 130 7) (380237)) = 0) → ¬ ((lg_cmp (mj M 130 7) (144941)) = 0) → ¬ ((lg_cmp (mj M 130 7) (10983956)) = 0) → ¬ ((lg_cmp (mj M 130 7) (409469)) = 0) → ¬ ((lg_cmp (mj M 130 7) (8740238)) = 0) → ¬ ((lg_cmp (mj M 130 7) (220307)) = 0) → ¬ ((lg_cmp (mj M 130 7) (47329743)) = 0) → ¬ ((lg_cmp (mj M 130 7) (7096239)) = 0) → ¬ ((lg_cmp (mj M 130 7) (10631)) = 0) → ¬ ((lg_cmp (mj M 130 7) (1111)) = 0) → ¬ (lg_cmp (mj M 130 7) (423)) = 0 → E0 g YX12_isKept d 202 [] [.int 0] M P)
    (k18 : (mi M 130 6) = 1 → ¬ ((lg_cmp (mj M 130 7) (380234)) = 0) → ¬ ((lg_cmp (mj M 130 7) (385418)) = 0) → ¬ ((lg_cmp (mj M 130 7) (247516)) = 0) → ¬ ((lg_cmp (mj M 130 7) (7542361)) = 0) → ¬ ((lg_cmp (mj M 130 7) (158529)) = 0) → ¬ ((lg_cmp (mj M 130 7) (4285945)) = 0) → ¬ ((lg_cmp (mj M 130 7) (380237)) = 0) → ¬ ((lg_cmp (mj M 130 7) (144941)) = 0) → ¬ ((lg_cmp (mj M 130 7) (10983956)) = 0) → ¬ ((lg_cmp (mj M 130 7) (409469)) = 0) → ¬ ((lg_cmp (mj M 130 7) (8740238)) = 0) → ¬ ((lg_cmp (mj M 130 7) (220307)) = 0) → ¬ ((lg_cmp (mj M 130 7) (47329743)) = 0) → ¬ ((lg_cmp (mj M 130 7) (7096239)) = 0) → ¬ ((lg_cmp (mj M 130 7) (10631)) = 0) → ¬ ((lg_cmp (mj M 130 7) (1111)) = 0) → (lg_cmp (mj M 130 7) (423)) = 0 → E0 g YX12_isKept d 197 [] [] M P)
    (k19 : ¬ ((mi M 130 6) = 1) → P (some (.int 1)) M) :
    E0 g YX12_isKept d 0 [(0, .ref 130)] [] M P := by
  have f1 : ob M 130 12 := L.s rfl (by decide)
  refine x_aload_n dX12_isKept_0 0 rfl ?_
  refine x_getI fdX12_163 rfl dX12_isKept_1 f1.1 f1.2 ?_
  refine x_iconst (v := 1) dX12_isKept_4 (by decide) ?_
  refine x_ic_eq 10 dX12_isKept_5 (by decide) (fun c1 => ?_) (fun c1 => ?_)
  · refine x_aload_n dX12_isKept_10 0 rfl ?_
    refine x_getJ fdX12_156 rfl dX12_isKept_11 f1.1 f1.2 ?_
    refine x_ldc2 dX12_isKept_14 kcX12_225 ?_
    refine x_lcmp dX12_isKept_17 ?_
    refine x_if_eq 197 dX12_isKept_18 (by decide) (fun c2 => ?_) (fun c2 => ?_)
    · exact EX.sub [] (k1 c1 c2) rfl
    · refine x_aload_n dX12_isKept_21 0 rfl ?_
      refine x_getJ fdX12_156 rfl dX12_isKept_22 f1.1 f1.2 ?_
      refine x_ldc2 dX12_isKept_25 kcX12_227 ?_
      refine x_lcmp dX12_isKept_28 ?_
      refine x_if_eq 197 dX12_isKept_29 (by decide) (fun c3 => ?_) (fun c3 => ?_)
      · exact EX.sub [] (k2 c1 c2 c3) rfl
      · refine x_aload_n dX12_isKept_32 0 rfl ?_
        refine x_getJ fdX12_156 rfl dX12_isKept_33 f1.1 f1.2 ?_
        refine x_ldc2 dX12_isKept_36 kcX12_229 ?_
        refine x_lcmp dX12_isKept_39 ?_
        refine x_if_eq 197 dX12_isKept_40 (by decide) (fun c4 => ?_) (fun c4 => ?_)
        · exact EX.sub [] (k3 c1 c2 c3 c4) rfl
        · refine x_aload_n dX12_isKept_43 0 rfl ?_
          refine x_getJ fdX12_156 rfl dX12_isKept_44 f1.1 f1.2 ?_
          refine x_ldc2 dX12_isKept_47 kcX12_231 ?_
          refine x_lcmp dX12_isKept_50 ?_
          refine x_if_eq 197 dX12_isKept_51 (by decide) (fun c5 => ?_) (fun c5 => ?_)
          · exact EX.sub [] (k4 c1 c2 c3 c4 c5) rfl
          · refine x_aload_n dX12_isKept_54 0 rfl ?_
            refine x_getJ fdX12_156 rfl dX12_isKept_55 f1.1 f1.2 ?_
            refine x_ldc2 dX12_isKept_58 kcX12_233 ?_
            refine x_lcmp dX12_isKept_61 ?_
            refine x_if_eq 197 dX12_isKept_62 (by decide) (fun c6 => ?_) (fun c6 => ?_)
            · exact EX.sub [] (k5 c1 c2 c3 c4 c5 c6) rfl
            · refine x_aload_n dX12_isKept_65 0 rfl ?_
              refine x_getJ fdX12_156 rfl dX12_isKept_66 f1.1 f1.2 ?_
              refine x_ldc2 dX12_isKept_69 kcX12_235 ?_
              refine x_lcmp dX12_isKept_72 ?_
              refine x_if_eq 197 dX12_isKept_73 (by decide) (fun c7 => ?_) (fun c7 => ?_)
              · exact EX.sub [] (k6 c1 c2 c3 c4 c5 c6 c7) rfl
              · refine x_aload_n dX12_isKept_76 0 rfl ?_
                refine x_getJ fdX12_156 rfl dX12_isKept_77 f1.1 f1.2 ?_
                refine x_ldc2 dX12_isKept_80 kcX12_237 ?_
                refine x_lcmp dX12_isKept_83 ?_
                refine x_if_eq 197 dX12_isKept_84 (by decide) (fun c8 => ?_) (fun c8 => ?_)
                · exact EX.sub [] (k7 c1 c2 c3 c4 c5 c6 c7 c8) rfl
                · refine x_aload_n dX12_isKept_87 0 rfl ?_
                  refine x_getJ fdX12_156 rfl dX12_isKept_88 f1.1 f1.2 ?_
                  refine x_ldc2 dX12_isKept_91 kcX12_239 ?_
                  refine x_lcmp dX12_isKept_94 ?_
                  refine x_if_eq 197 dX12_isKept_95 (by decide) (fun c9 => ?_) (fun c9 => ?_)
                  · exact EX.sub [] (k8 c1 c2 c3 c4 c5 c6 c7 c8 c9) rfl
                  · refine x_aload_n dX12_isKept_98 0 rfl ?_
                    refine x_getJ fdX12_156 rfl dX12_isKept_99 f1.1 f1.2 ?_
                    refine x_ldc2 dX12_isKept_102 kcX12_241 ?_
                    refine x_lcmp dX12_isKept_105 ?_
                    refine x_if_eq 197 dX12_isKept_106 (by decide) (fun c10 => ?_) (fun c10 => ?_)
                    · exact EX.sub [] (k9 c1 c2 c3 c4 c5 c6 c7 c8 c9 c10) rfl
                    · refine x_aload_n dX12_isKept_109 0 rfl ?_
                      refine x_getJ fdX12_156 rfl dX12_isKept_110 f1.1 f1.2 ?_
                      refine x_ldc2 dX12_isKept_113 kcX12_243 ?_
                      refine x_lcmp dX12_isKept_116 ?_
                      refine x_if_eq 197 dX12_isKept_117 (by decide) (fun c11 => ?_) (fun c11 => ?_)
                      · exact EX.sub [] (k10 c1 c2 c3 c4 c5 c6 c7 c8 c9 c10 c11) rfl
                      · refine x_aload_n dX12_isKept_120 0 rfl ?_
                        refine x_getJ fdX12_156 rfl dX12_isKept_121 f1.1 f1.2 ?_
                        refine x_ldc2 dX12_isKept_124 kcX12_245 ?_
                        refine x_lcmp dX12_isKept_127 ?_
                        refine x_if_eq 197 dX12_isKept_128 (by decide) (fun c12 => ?_) (fun c12 => ?_)
                        · exact EX.sub [] (k11 c1 c2 c3 c4 c5 c6 c7 c8 c9 c10 c11 c12) rfl
                        · refine x_aload_n dX12_isKept_131 0 rfl ?_
                          refine x_getJ fdX12_156 rfl dX12_isKept_132 f1.1 f1.2 ?_
                          refine x_ldc2 dX12_isKept_135 kcX12_247 ?_
                          refine x_lcmp dX12_isKept_138 ?_
                          refine x_if_eq 197 dX12_isKept_139 (by decide) (fun c13 => ?_) (fun c13 => ?_)
                          · exact EX.sub [] (k12 c1 c2 c3 c4 c5 c6 c7 c8 c9 c10 c11 c12 c13) rfl
                          · refine x_aload_n dX12_isKept_142 0 rfl ?_
                            refine x_getJ fdX12_156 rfl dX12_isKept_143 f1.1 f1.2 ?_
                            refine x_ldc2 dX12_isKept_146 kcX12_249 ?_
                            refine x_lcmp dX12_isKept_149 ?_
                            refine x_if_eq 197 dX12_isKept_150 (by decide) (fun c14 => ?_) (fun c14 => ?_)
                            · exact EX.sub [] (k13 c1 c2 c3 c4 c5 c6 c7 c8 c9 c10 c11 c12 c13 c14) rfl
                            · refine x_aload_n dX12_isKept_153 0 rfl ?_
                              refine x_getJ fdX12_156 rfl dX12_isKept_154 f1.1 f1.2 ?_
                              refine x_ldc2 dX12_isKept_157 kcX12_251 ?_
                              refine x_lcmp dX12_isKept_160 ?_
                              refine x_if_eq 197 dX12_isKept_161 (by decide) (fun c15 => ?_) (fun c15 => ?_)
                              · exact EX.sub [] (k14 c1 c2 c3 c4 c5 c6 c7 c8 c9 c10 c11 c12 c13 c14 c15) rfl
                              · refine x_aload_n dX12_isKept_164 0 rfl ?_
                                refine x_getJ fdX12_156 rfl dX12_isKept_165 f1.1 f1.2 ?_
                                refine x_ldc2 dX12_isKept_168 kcX12_192 ?_
                                refine x_lcmp dX12_isKept_171 ?_
                                refine x_if_eq 197 dX12_isKept_172 (by decide) (fun c16 => ?_) (fun c16 => ?_)
                                · exact EX.sub [] (k15 c1 c2 c3 c4 c5 c6 c7 c8 c9 c10 c11 c12 c13 c14 c15 c16) rfl
                                · refine x_aload_n dX12_isKept_175 0 rfl ?_
                                  refine x_getJ fdX12_156 rfl dX12_isKept_176 f1.1 f1.2 ?_
                                  refine x_ldc2 dX12_isKept_179 kcX12_212 ?_
                                  refine x_lcmp dX12_isKept_182 ?_
                                  refine x_if_eq 197 dX12_isKept_183 (by decide) (fun c17 => ?_) (fun c17 => ?_)
                                  · exact EX.sub [] (k16 c1 c2 c3 c4 c5 c6 c7 c8 c9 c10 c11 c12 c13 c14 c15 c16 c17) rfl
                                  · refine x_aload_n dX12_isKept_186 0 rfl ?_
                                    refine x_getJ fdX12_156 rfl dX12_isKept_187 f1.1 f1.2 ?_
                                    refine x_ldc2 dX12_isKept_190 kcX12_214 ?_
                                    refine x_lcmp dX12_isKept_193 ?_
                                    refine x_if_ne 201 dX12_isKept_194 (by decide) (fun c18 => ?_) (fun c18 => ?_)
                                    · refine x_iconst (v := 0) dX12_isKept_201 (by decide) ?_
                                      exact EX.sub [] (k17 c1 c2 c3 c4 c5 c6 c7 c8 c9 c10 c11 c12 c13 c14 c15 c16 c17 c18) rfl
                                    · exact EX.sub [] (k18 c1 c2 c3 c4 c5 c6 c7 c8 c9 c10 c11 c12 c13 c14 c15 c16 c17 c18) rfl
  · refine x_iconst (v := 1) dX12_isKept_8 (by decide) ?_
    exact x_zret rfl dX12_isKept_9 rfl (Nat.le_refl _) (Nat.le_refl _) (k19 c1)
set_option maxRecDepth 8000 in
theorem qX12_isKept_197 {g : GG} {d : Nat} {M : MM} {P : Option Value → MM → Prop} 
    (k1 : E0 g YX12_isKept d 202 [] [.int 1] M P) :
    E0 g YX12_isKept d 197 [] [] M P := by
  refine x_iconst (v := 1) dX12_isKept_197 (by decide) ?_
  refine x_goto 202 dX12_isKept_198 (by decide) ?_
  exact EX.sub [] k1 rfl
set_option maxRecDepth 8000 in
theorem qX12_isKept_202 {g : GG} {d : Nat} {M : MM} {P : Option Value → MM → Prop} {s0 : Int32}
    (h1 : s0 &&& 1 = s0)
    (k1 : P (some (.int s0)) M) :
    E0 g YX12_isKept d 202 [] [.int s0] M P := by
  exact x_zret rfl dX12_isKept_202 (h1) (Nat.le_refl _) (Nat.le_refl _) (k1)
set_option maxRecDepth 8000 in
theorem qX12_shotNamed_0 {g : GG} {d : Nat} {M : MM} {P : Option Value → MM → Prop} {i1 : Int32}
    (k1 : E0 g YX12_shotNamed d 5 [(0, .ref 130), (1, .int i1), (2, .int (10 * i1))] [] M P) :
    E0 g YX12_shotNamed d 0 [(0, .ref 130), (1, .int i1)] [] M P := by
  refine x_bipush (v := 10) dX12_shotNamed_0 (by decide) ?_
  refine x_iload_n dX12_shotNamed_2 1 rfl ?_
  refine x_imul dX12_shotNamed_3 ?_
  refine x_istore_n (lv1 := [(2, .int (10 * i1)), (0, .ref 130), (1, .int i1)]) dX12_shotNamed_4 (by decide) rfl ?_
  exact EX.sub [1, 2, 0] k1 rfl
set_option maxRecDepth 8000 in
theorem qX12_shotNamed_5 {g : GG} {d : Nat} {M : MM} {P : Option Value → MM → Prop} {i1 : Int32} {i2 : Int32} {la lb pa pb rl : Nat} (L : Lay M la lb pa pb rl)
    (h1 : vp_in ((2 * i1) + 0) 4)
    (h2 : ¬ (((10 * i1) + (mi M 132 (((2 * i1) + 0) : Int32).toNatClampNeg)) ≤ i2) → vp_in i2 20)
    (k1 : ((10 * i1) + (mi M 132 (((2 * i1) + 0) : Int32).toNatClampNeg)) ≤ i2 → P (some (.int (-1))) M)
    (k2 : ¬ (((10 * i1) + (mi M 132 (((2 * i1) + 0) : Int32).toNatClampNeg)) ≤ i2) → ¬ (lg_cmp (mj M 133 (i2 : Int32).toNatClampNeg) (mj M 130 7)) = 0 → E0 g YX12_shotNamed d 5 [(0, .ref 130), (1, .int i1), (2, .int (i2 + 1))] [] M P)
    (k3 : ¬ (((10 * i1) + (mi M 132 (((2 * i1) + 0) : Int32).toNatClampNeg)) ≤ i2) → (lg_cmp (mj M 133 (i2 : Int32).toNatClampNeg) (mj M 130 7)) = 0 → P (some (.int (i2 - (10 * i1)))) M) :
    E0 g YX12_shotNamed d 5 [(0, .ref 130), (1, .int i1), (2, .int i2)] [] M P := by
  have f1 : ob M 130 12 := L.s rfl (by decide)
  have f2 : mr M 130 10 = some 132 := L.r 127 rfl
  have f3 : ar M 132 1 4 := L.s rfl (by decide)
  have f4 : mr M 130 11 = some 133 := L.r 128 rfl
  have f5 : ar M 133 2 20 := L.s rfl (by decide)
  refine x_iload_n dX12_shotNamed_5 2 rfl ?_
  refine x_bipush (v := 10) dX12_shotNamed_6 (by decide) ?_
  refine x_iload_n dX12_shotNamed_8 1 rfl ?_
  refine x_imul dX12_shotNamed_9 ?_
  refine x_aload_n dX12_shotNamed_10 0 rfl ?_
  refine x_getR fdX12_13 rfl dX12_shotNamed_11 f1.1 f1.2 f2 ?_
  refine x_iconst (v := 2) dX12_shotNamed_14 (by decide) ?_
  refine x_iload_n dX12_shotNamed_15 1 rfl ?_
  refine x_imul dX12_shotNamed_16 ?_
  refine x_iconst (v := 0) dX12_shotNamed_17 (by decide) ?_
  refine x_iadd dX12_shotNamed_18 ?_
  refine x_iald dX12_shotNamed_19 f3.1 f3.2 (h1) ?_
  refine x_iadd dX12_shotNamed_20 ?_
  refine x_ic_ge 51 dX12_shotNamed_21 (by decide) (fun c1 => ?_) (fun c1 => ?_)
  · refine x_iconst (v := (-1)) dX12_shotNamed_51 (by decide) ?_
    exact x_iret rfl dX12_shotNamed_52 (Nat.le_refl _) (Nat.le_refl _) (k1 c1)
  · refine x_aload_n dX12_shotNamed_24 0 rfl ?_
    refine x_getR fdX12_16 rfl dX12_shotNamed_25 f1.1 f1.2 f4 ?_
    refine x_iload_n dX12_shotNamed_28 2 rfl ?_
    refine x_lald dX12_shotNamed_29 f5.1 f5.2 (h2 c1) ?_
    refine x_aload_n dX12_shotNamed_30 0 rfl ?_
    refine x_getJ fdX12_156 rfl dX12_shotNamed_31 f1.1 f1.2 ?_
    refine x_lcmp dX12_shotNamed_34 ?_
    refine x_if_ne 45 dX12_shotNamed_35 (by decide) (fun c2 => ?_) (fun c2 => ?_)
    · refine x_iinc (v := (i2 + 1)) (lv1 := [(2, .int (i2 + 1)), (0, .ref 130), (1, .int i1)]) dX12_shotNamed_45 2 rfl rfl (by decide) rfl ?_
      refine x_goto 5 dX12_shotNamed_48 (by decide) ?_
      exact EX.sub [1, 2, 0] (k2 c1 c2) rfl
    · refine x_iload_n dX12_shotNamed_38 2 rfl ?_
      refine x_bipush (v := 10) dX12_shotNamed_39 (by decide) ?_
      refine x_iload_n dX12_shotNamed_41 1 rfl ?_
      refine x_imul dX12_shotNamed_42 ?_
      refine x_isub dX12_shotNamed_43 ?_
      exact x_iret rfl dX12_shotNamed_44 (Nat.le_refl _) (Nat.le_refl _) (k3 c1 c2)
set_option maxRecDepth 8000 in
theorem qX12_hallNamed_0 {g : GG} {d : Nat} {M : MM} {P : Option Value → MM → Prop} {i1 : Int32}
    (k1 : E0 g YX12_hallNamed d 5 [(0, .ref 130), (1, .int i1), (2, .int (6 * i1))] [] M P) :
    E0 g YX12_hallNamed d 0 [(0, .ref 130), (1, .int i1)] [] M P := by
  refine x_bipush (v := 6) dX12_hallNamed_0 (by decide) ?_
  refine x_iload_n dX12_hallNamed_2 1 rfl ?_
  refine x_imul dX12_hallNamed_3 ?_
  refine x_istore_n (lv1 := [(2, .int (6 * i1)), (0, .ref 130), (1, .int i1)]) dX12_hallNamed_4 (by decide) rfl ?_
  exact EX.sub [1, 2, 0] k1 rfl
set_option maxRecDepth 8000 in
theorem qX12_hallNamed_5 {g : GG} {d : Nat} {M : MM} {P : Option Value → MM → Prop} {i1 : Int32} {i2 : Int32} {la lb pa pb rl : Nat} (L : Lay M la lb pa pb rl)
    (h1 : vp_in ((2 * i1) + 1) 4)
    (h2 : ¬ (((6 * i1) + (mi M 132 (((2 * i1) + 1) : Int32).toNatClampNeg)) ≤ i2) → vp_in i2 12)
    (k1 : ((6 * i1) + (mi M 132 (((2 * i1) + 1) : Int32).toNatClampNeg)) ≤ i2 → P (some (.int (-1))) M)
    (k2 : ¬ (((6 * i1) + (mi M 132 (((2 * i1) + 1) : Int32).toNatClampNeg)) ≤ i2) → ¬ (lg_cmp (mj M 134 (i2 : Int32).toNatClampNeg) (mj M 130 7)) = 0 → E0 g YX12_hallNamed d 5 [(0, .ref 130), (1, .int i1), (2, .int (i2 + 1))] [] M P)
    (k3 : ¬ (((6 * i1) + (mi M 132 (((2 * i1) + 1) : Int32).toNatClampNeg)) ≤ i2) → (lg_cmp (mj M 134 (i2 : Int32).toNatClampNeg) (mj M 130 7)) = 0 → P (some (.int (i2 - (6 * i1)))) M) :
    E0 g YX12_hallNamed d 5 [(0, .ref 130), (1, .int i1), (2, .int i2)] [] M P := by
  have f1 : ob M 130 12 := L.s rfl (by decide)
  have f2 : mr M 130 10 = some 132 := L.r 127 rfl
  have f3 : ar M 132 1 4 := L.s rfl (by decide)
  have f4 : mr M 130 12 = some 134 := L.r 129 rfl
  have f5 : ar M 134 2 12 := L.s rfl (by decide)
  refine x_iload_n dX12_hallNamed_5 2 rfl ?_
  refine x_bipush (v := 6) dX12_hallNamed_6 (by decide) ?_
  refine x_iload_n dX12_hallNamed_8 1 rfl ?_
  refine x_imul dX12_hallNamed_9 ?_
  refine x_aload_n dX12_hallNamed_10 0 rfl ?_
  refine x_getR fdX12_13 rfl dX12_hallNamed_11 f1.1 f1.2 f2 ?_
  refine x_iconst (v := 2) dX12_hallNamed_14 (by decide) ?_
  refine x_iload_n dX12_hallNamed_15 1 rfl ?_
  refine x_imul dX12_hallNamed_16 ?_
  refine x_iconst (v := 1) dX12_hallNamed_17 (by decide) ?_
  refine x_iadd dX12_hallNamed_18 ?_
  refine x_iald dX12_hallNamed_19 f3.1 f3.2 (h1) ?_
  refine x_iadd dX12_hallNamed_20 ?_
  refine x_ic_ge 51 dX12_hallNamed_21 (by decide) (fun c1 => ?_) (fun c1 => ?_)
  · refine x_iconst (v := (-1)) dX12_hallNamed_51 (by decide) ?_
    exact x_iret rfl dX12_hallNamed_52 (Nat.le_refl _) (Nat.le_refl _) (k1 c1)
  · refine x_aload_n dX12_hallNamed_24 0 rfl ?_
    refine x_getR fdX12_20 rfl dX12_hallNamed_25 f1.1 f1.2 f4 ?_
    refine x_iload_n dX12_hallNamed_28 2 rfl ?_
    refine x_lald dX12_hallNamed_29 f5.1 f5.2 (h2 c1) ?_
    refine x_aload_n dX12_hallNamed_30 0 rfl ?_
    refine x_getJ fdX12_156 rfl dX12_hallNamed_31 f1.1 f1.2 ?_
    refine x_lcmp dX12_hallNamed_34 ?_
    refine x_if_ne 45 dX12_hallNamed_35 (by decide) (fun c2 => ?_) (fun c2 => ?_)
    · refine x_iinc (v := (i2 + 1)) (lv1 := [(2, .int (i2 + 1)), (0, .ref 130), (1, .int i1)]) dX12_hallNamed_45 2 rfl rfl (by decide) rfl ?_
      refine x_goto 5 dX12_hallNamed_48 (by decide) ?_
      exact EX.sub [1, 2, 0] (k2 c1 c2) rfl
    · refine x_iload_n dX12_hallNamed_38 2 rfl ?_
      refine x_bipush (v := 6) dX12_hallNamed_39 (by decide) ?_
      refine x_iload_n dX12_hallNamed_41 1 rfl ?_
      refine x_imul dX12_hallNamed_42 ?_
      refine x_isub dX12_hallNamed_43 ?_
      exact x_iret rfl dX12_hallNamed_44 (Nat.le_refl _) (Nat.le_refl _) (k3 c1 c2)
set_option maxRecDepth 8000 in
theorem qX12_needsNumber_0 {g : GG} {d : Nat} {M : MM} {P : Option Value → MM → Prop} {i1 : Int32} {i2 : Int32} {la lb pa pb rl : Nat} (L : Lay M la lb pa pb rl)
    (k1 : (mi M 130 6) = 2 → K0 g YX12_needsNumber YX12_within d 23 [.int (mi M 130 8), .int i1, .int i2] [(0, .ref 130)] [] M P)
    (k2 : ¬ ((mi M 130 6) = 2) → K0 g YX12_needsNumber YX12_fails d 13 [.ref 130, .int 1] [] [] M P) :
    E0 g YX12_needsNumber d 0 [(0, .ref 130), (1, .int i1), (2, .int i2)] [] M P := by
  have f1 : ob M 130 12 := L.s rfl (by decide)
  refine x_aload_n dX12_needsNumber_0 0 rfl ?_
  refine x_getI fdX12_163 rfl dX12_needsNumber_1 f1.1 f1.2 ?_
  refine x_iconst (v := 2) dX12_needsNumber_4 (by decide) ?_
  refine x_ic_eq 14 dX12_needsNumber_5 (by decide) (fun c1 => ?_) (fun c1 => ?_)
  · refine x_aload_n dX12_needsNumber_14 0 rfl ?_
    refine x_getI fdX12_160 rfl dX12_needsNumber_15 f1.1 f1.2 ?_
    refine x_iload_n dX12_needsNumber_18 1 rfl ?_
    refine x_iload_n dX12_needsNumber_19 2 rfl ?_
    refine EX.sub [0] (K0.s (As := [.int (mi M 130 8), .int i1, .int i2]) (st := []) csX12_253 dX12_needsNumber_20 rfl rfl (Nat.le_of_ble_eq_true rfl) (k1 c1)) rfl
  · refine x_aload_n dX12_needsNumber_8 0 rfl ?_
    refine x_iconst (v := 1) dX12_needsNumber_9 (by decide) ?_
    refine EX.sub [] (K0.v (As := [.int 1]) (st := []) cvX12_202 dX12_needsNumber_10 rfl rfl f1 rfl (Nat.le_of_ble_eq_true rfl) (k2 c1)) rfl
set_option maxRecDepth 8000 in
theorem qX12_needsNumber_13 {g : GG} {d : Nat} {M : MM} {P : Option Value → MM → Prop} {s0 : Int32}
    (h1 : s0 &&& 1 = s0)
    (k1 : P (some (.int s0)) M) :
    E0 g YX12_needsNumber d 13 [] [.int s0] M P := by
  exact x_zret rfl dX12_needsNumber_13 (h1) (Nat.le_refl _) (Nat.le_refl _) (k1)
set_option maxRecDepth 8000 in
theorem qX12_needsNumber_23 {g : GG} {d : Nat} {M : MM} {P : Option Value → MM → Prop} {s0 : Int32} {M1 : MM} {la lb pa pb rl : Nat} (L : Lay M la lb pa pb rl)
    (qM1 : M1 = wi M 130 33 (mi M 130 8))
    (k1 : ¬ s0 = 0 → K0 g YX12_needsNumber YX12_nextToken d 44 [.ref 130] [] [] M1 P)
    (k2 : s0 = 0 → K0 g YX12_needsNumber YX12_fails d 31 [.ref 130, .int 4] [] [] M P) :
    E0 g YX12_needsNumber d 23 [(0, .ref 130)] [.int s0] M P := by
  have f1 : ob M 130 12 := L.s rfl (by decide)
  subst qM1
  refine x_if_ne 32 dX12_needsNumber_23 (by decide) (fun c1 => ?_) (fun c1 => ?_)
  · refine x_aload_n dX12_needsNumber_32 0 rfl ?_
    refine x_aload_n dX12_needsNumber_33 0 rfl ?_
    refine x_getI fdX12_160 rfl dX12_needsNumber_34 f1.1 f1.2 ?_
    refine x_putI fdX12_257 rfl (Or.inl rfl) dX12_needsNumber_37 f1.1 f1.2 rfl rfl ?_
    refine x_aload_n dX12_needsNumber_40 0 rfl ?_
    refine EX.sub [] (K0.v (As := []) (st := []) cvX12_209 dX12_needsNumber_41 rfl rfl f1 rfl (Nat.le_of_ble_eq_true rfl) (k1 c1)) rfl
  · refine x_aload_n dX12_needsNumber_26 0 rfl ?_
    refine x_iconst (v := 4) dX12_needsNumber_27 (by decide) ?_
    refine EX.sub [] (K0.v (As := [.int 4]) (st := []) cvX12_202 dX12_needsNumber_28 rfl rfl f1 rfl (Nat.le_of_ble_eq_true rfl) (k2 c1)) rfl
set_option maxRecDepth 8000 in
theorem qX12_needsNumber_31 {g : GG} {d : Nat} {M : MM} {P : Option Value → MM → Prop} {s0 : Int32}
    (h1 : s0 &&& 1 = s0)
    (k1 : P (some (.int s0)) M) :
    E0 g YX12_needsNumber d 31 [] [.int s0] M P := by
  exact x_zret rfl dX12_needsNumber_31 (h1) (Nat.le_refl _) (Nat.le_refl _) (k1)
set_option maxRecDepth 8000 in
theorem qX12_needsNumber_44 {g : GG} {d : Nat} {M : MM} {P : Option Value → MM → Prop} 
    (k1 : P (some (.int 1)) M) :
    E0 g YX12_needsNumber d 44 [] [] M P := by
  refine x_iconst (v := 1) dX12_needsNumber_44 (by decide) ?_
  exact x_zret rfl dX12_needsNumber_45 rfl (Nat.le_refl _) (Nat.le_refl _) (k1)
set_option maxRecDepth 8000 in
theorem qX12_needsWord_0 {g : GG} {d : Nat} {M : MM} {P : Option Value → MM → Prop} {j1 : Int64} {la lb pa pb rl : Nat} (L : Lay M la lb pa pb rl)
    (k1 : K0 g YX12_needsWord YX12_isWord d 5 [.ref 130, .long j1] [(0, .ref 130)] [] M P) :
    E0 g YX12_needsWord d 0 [(0, .ref 130), (1, .long j1)] [] M P := by
  have f1 : ob M 130 12 := L.s rfl (by decide)
  refine x_aload_n dX12_needsWord_0 0 rfl ?_
  refine x_lload_n dX12_needsWord_1 1 rfl ?_
  refine EX.sub [0] (K0.v (As := [.long j1]) (st := []) cvX12_194 dX12_needsWord_2 rfl rfl f1 rfl (Nat.le_of_ble_eq_true rfl) (k1)) rfl
set_option maxRecDepth 8000 in
theorem qX12_needsWord_5 {g : GG} {d : Nat} {M : MM} {P : Option Value → MM → Prop} {s0 : Int32} {la lb pa pb rl : Nat} (L : Lay M la lb pa pb rl)
    (k1 : ¬ s0 = 0 → K0 g YX12_needsWord YX12_nextToken d 18 [.ref 130] [] [] M P)
    (k2 : s0 = 0 → K0 g YX12_needsWord YX12_fails d 13 [.ref 130, .int 1] [] [] M P) :
    E0 g YX12_needsWord d 5 [(0, .ref 130)] [.int s0] M P := by
  have f1 : ob M 130 12 := L.s rfl (by decide)
  refine x_if_ne 14 dX12_needsWord_5 (by decide) (fun c1 => ?_) (fun c1 => ?_)
  · refine x_aload_n dX12_needsWord_14 0 rfl ?_
    refine EX.sub [] (K0.v (As := []) (st := []) cvX12_209 dX12_needsWord_15 rfl rfl f1 rfl (Nat.le_of_ble_eq_true rfl) (k1 c1)) rfl
  · refine x_aload_n dX12_needsWord_8 0 rfl ?_
    refine x_iconst (v := 1) dX12_needsWord_9 (by decide) ?_
    refine EX.sub [] (K0.v (As := [.int 1]) (st := []) cvX12_202 dX12_needsWord_10 rfl rfl f1 rfl (Nat.le_of_ble_eq_true rfl) (k2 c1)) rfl
set_option maxRecDepth 8000 in
theorem qX12_needsWord_13 {g : GG} {d : Nat} {M : MM} {P : Option Value → MM → Prop} {s0 : Int32}
    (h1 : s0 &&& 1 = s0)
    (k1 : P (some (.int s0)) M) :
    E0 g YX12_needsWord d 13 [] [.int s0] M P := by
  exact x_zret rfl dX12_needsWord_13 (h1) (Nat.le_refl _) (Nat.le_refl _) (k1)
set_option maxRecDepth 8000 in
theorem qX12_needsWord_18 {g : GG} {d : Nat} {M : MM} {P : Option Value → MM → Prop} 
    (k1 : P (some (.int 1)) M) :
    E0 g YX12_needsWord d 18 [] [] M P := by
  refine x_iconst (v := 1) dX12_needsWord_18 (by decide) ?_
  exact x_zret rfl dX12_needsWord_19 rfl (Nat.le_refl _) (Nat.le_refl _) (k1)
set_option maxRecDepth 8000 in
theorem qX12_closes_0 {g : GG} {d : Nat} {M : MM} {P : Option Value → MM → Prop}  {la lb pa pb rl : Nat} (L : Lay M la lb pa pb rl)
    (k1 : K0 g YX12_closes YX12_isSign d 6 [.ref 130, .int 59] [(0, .ref 130)] [] M P) :
    E0 g YX12_closes d 0 [(0, .ref 130)] [] M P := by
  have f1 : ob M 130 12 := L.s rfl (by decide)
  refine x_aload_n dX12_closes_0 0 rfl ?_
  refine x_bipush (v := 59) dX12_closes_1 (by decide) ?_
  refine EX.sub [0] (K0.v (As := [.int 59]) (st := []) cvX12_198 dX12_closes_3 rfl rfl f1 rfl (Nat.le_of_ble_eq_true rfl) (k1)) rfl
set_option maxRecDepth 8000 in
theorem qX12_closes_6 {g : GG} {d : Nat} {M : MM} {P : Option Value → MM → Prop} {s0 : Int32} {la lb pa pb rl : Nat} (L : Lay M la lb pa pb rl)
    (k1 : ¬ s0 = 0 → K0 g YX12_closes YX12_nextToken d 19 [.ref 130] [] [] M P)
    (k2 : s0 = 0 → K0 g YX12_closes YX12_fails d 14 [.ref 130, .int 1] [] [] M P) :
    E0 g YX12_closes d 6 [(0, .ref 130)] [.int s0] M P := by
  have f1 : ob M 130 12 := L.s rfl (by decide)
  refine x_if_ne 15 dX12_closes_6 (by decide) (fun c1 => ?_) (fun c1 => ?_)
  · refine x_aload_n dX12_closes_15 0 rfl ?_
    refine EX.sub [] (K0.v (As := []) (st := []) cvX12_209 dX12_closes_16 rfl rfl f1 rfl (Nat.le_of_ble_eq_true rfl) (k1 c1)) rfl
  · refine x_aload_n dX12_closes_9 0 rfl ?_
    refine x_iconst (v := 1) dX12_closes_10 (by decide) ?_
    refine EX.sub [] (K0.v (As := [.int 1]) (st := []) cvX12_202 dX12_closes_11 rfl rfl f1 rfl (Nat.le_of_ble_eq_true rfl) (k2 c1)) rfl
set_option maxRecDepth 8000 in
theorem qX12_closes_14 {g : GG} {d : Nat} {M : MM} {P : Option Value → MM → Prop} {s0 : Int32}
    (h1 : s0 &&& 1 = s0)
    (k1 : P (some (.int s0)) M) :
    E0 g YX12_closes d 14 [] [.int s0] M P := by
  exact x_zret rfl dX12_closes_14 (h1) (Nat.le_refl _) (Nat.le_refl _) (k1)
set_option maxRecDepth 8000 in
theorem qX12_closes_19 {g : GG} {d : Nat} {M : MM} {P : Option Value → MM → Prop} 
    (k1 : P (some (.int 1)) M) :
    E0 g YX12_closes d 19 [] [] M P := by
  refine x_iconst (v := 1) dX12_closes_19 (by decide) ?_
  exact x_zret rfl dX12_closes_20 rfl (Nat.le_refl _) (Nat.le_refl _) (k1)
set_option maxRecDepth 8000 in
theorem qX12_needsNew_0 {g : GG} {d : Nat} {M : MM} {P : Option Value → MM → Prop}  {la lb pa pb rl : Nat} (L : Lay M la lb pa pb rl)
    (k1 : K0 g YX12_needsNew YX12_isKept d 4 [.ref 130] [(0, .ref 130)] [] M P) :
    E0 g YX12_needsNew d 0 [(0, .ref 130)] [] M P := by
  have f1 : ob M 130 12 := L.s rfl (by decide)
  refine x_aload_n dX12_needsNew_0 0 rfl ?_
  refine EX.sub [0] (K0.v (As := []) (st := []) cvX12_260 dX12_needsNew_1 rfl rfl f1 rfl (Nat.le_of_ble_eq_true rfl) (k1)) rfl
set_option maxRecDepth 8000 in
theorem qX12_needsNew_4 {g : GG} {d : Nat} {M : MM} {P : Option Value → MM → Prop} {s0 : Int32} {la lb pa pb rl : Nat} (L : Lay M la lb pa pb rl)
    (k1 : s0 = 0 → K0 g YX12_needsNew YX12_shotNamed d 18 [.ref 130, .int 1] [(0, .ref 130)] [] M P)
    (k2 : ¬ (s0 = 0) → K0 g YX12_needsNew YX12_fails d 12 [.ref 130, .int 1] [] [] M P) :
    E0 g YX12_needsNew d 4 [(0, .ref 130)] [.int s0] M P := by
  have f1 : ob M 130 12 := L.s rfl (by decide)
  refine x_if_eq 13 dX12_needsNew_4 (by decide) (fun c1 => ?_) (fun c1 => ?_)
  · refine x_aload_n dX12_needsNew_13 0 rfl ?_
    refine x_iconst (v := 1) dX12_needsNew_14 (by decide) ?_
    refine EX.sub [0] (K0.v (As := [.int 1]) (st := []) cvX12_264 dX12_needsNew_15 rfl rfl f1 rfl (Nat.le_of_ble_eq_true rfl) (k1 c1)) rfl
  · refine x_aload_n dX12_needsNew_7 0 rfl ?_
    refine x_iconst (v := 1) dX12_needsNew_8 (by decide) ?_
    refine EX.sub [] (K0.v (As := [.int 1]) (st := []) cvX12_202 dX12_needsNew_9 rfl rfl f1 rfl (Nat.le_of_ble_eq_true rfl) (k2 c1)) rfl
set_option maxRecDepth 8000 in
theorem qX12_needsNew_12 {g : GG} {d : Nat} {M : MM} {P : Option Value → MM → Prop} {s0 : Int32}
    (h1 : s0 &&& 1 = s0)
    (k1 : P (some (.int s0)) M) :
    E0 g YX12_needsNew d 12 [] [.int s0] M P := by
  exact x_zret rfl dX12_needsNew_12 (h1) (Nat.le_refl _) (Nat.le_refl _) (k1)
set_option maxRecDepth 8000 in
theorem qX12_needsNew_18 {g : GG} {d : Nat} {M : MM} {P : Option Value → MM → Prop} {s0 : Int32} {la lb pa pb rl : Nat} (L : Lay M la lb pa pb rl)
    (k1 : 0 ≤ s0 → K0 g YX12_needsNew YX12_fails d 34 [.ref 130, .int 3] [] [] M P)
    (k2 : ¬ (0 ≤ s0) → K0 g YX12_needsNew YX12_hallNamed d 26 [.ref 130, .int 1] [(0, .ref 130)] [] M P) :
    E0 g YX12_needsNew d 18 [(0, .ref 130)] [.int s0] M P := by
  have f1 : ob M 130 12 := L.s rfl (by decide)
  refine x_if_ge 29 dX12_needsNew_18 (by decide) (fun c1 => ?_) (fun c1 => ?_)
  · refine x_aload_n dX12_needsNew_29 0 rfl ?_
    refine x_iconst (v := 3) dX12_needsNew_30 (by decide) ?_
    refine EX.sub [] (K0.v (As := [.int 3]) (st := []) cvX12_202 dX12_needsNew_31 rfl rfl f1 rfl (Nat.le_of_ble_eq_true rfl) (k1 c1)) rfl
  · refine x_aload_n dX12_needsNew_21 0 rfl ?_
    refine x_iconst (v := 1) dX12_needsNew_22 (by decide) ?_
    refine EX.sub [0] (K0.v (As := [.int 1]) (st := []) cvX12_267 dX12_needsNew_23 rfl rfl f1 rfl (Nat.le_of_ble_eq_true rfl) (k2 c1)) rfl
set_option maxRecDepth 8000 in
theorem qX12_needsNew_26 {g : GG} {d : Nat} {M : MM} {P : Option Value → MM → Prop} {s0 : Int32} {M1 : MM} {la lb pa pb rl : Nat} (L : Lay M la lb pa pb rl)
    (qM1 : M1 = wj M 130 34 (mj M 130 7))
    (k1 : s0 < 0 → K0 g YX12_needsNew YX12_nextToken d 47 [.ref 130] [] [] M1 P)
    (k2 : ¬ (s0 < 0) → K0 g YX12_needsNew YX12_fails d 34 [.ref 130, .int 3] [] [] M P) :
    E0 g YX12_needsNew d 26 [(0, .ref 130)] [.int s0] M P := by
  have f1 : ob M 130 12 := L.s rfl (by decide)
  subst qM1
  refine x_if_lt 35 dX12_needsNew_26 (by decide) (fun c1 => ?_) (fun c1 => ?_)
  · refine x_aload_n dX12_needsNew_35 0 rfl ?_
    refine x_aload_n dX12_needsNew_36 0 rfl ?_
    refine x_getJ fdX12_156 rfl dX12_needsNew_37 f1.1 f1.2 ?_
    refine x_putJ fdX12_270 rfl (Or.inl rfl) dX12_needsNew_40 f1.1 f1.2 ?_
    refine x_aload_n dX12_needsNew_43 0 rfl ?_
    refine EX.sub [] (K0.v (As := []) (st := []) cvX12_209 dX12_needsNew_44 rfl rfl f1 rfl (Nat.le_of_ble_eq_true rfl) (k1 c1)) rfl
  · refine x_aload_n dX12_needsNew_29 0 rfl ?_
    refine x_iconst (v := 3) dX12_needsNew_30 (by decide) ?_
    refine EX.sub [] (K0.v (As := [.int 3]) (st := []) cvX12_202 dX12_needsNew_31 rfl rfl f1 rfl (Nat.le_of_ble_eq_true rfl) (k2 c1)) rfl
set_option maxRecDepth 8000 in
theorem qX12_needsNew_34 {g : GG} {d : Nat} {M : MM} {P : Option Value → MM → Prop} {s0 : Int32}
    (h1 : s0 &&& 1 = s0)
    (k1 : P (some (.int s0)) M) :
    E0 g YX12_needsNew d 34 [] [.int s0] M P := by
  exact x_zret rfl dX12_needsNew_34 (h1) (Nat.le_refl _) (Nat.le_refl _) (k1)
set_option maxRecDepth 8000 in
theorem qX12_needsNew_47 {g : GG} {d : Nat} {M : MM} {P : Option Value → MM → Prop} 
    (k1 : P (some (.int 1)) M) :
    E0 g YX12_needsNew d 47 [] [] M P := by
  refine x_iconst (v := 1) dX12_needsNew_47 (by decide) ?_
  exact x_zret rfl dX12_needsNew_48 rfl (Nat.le_refl _) (Nat.le_refl _) (k1)
set_option maxRecDepth 8000 in
theorem qX12_needsShot_0 {g : GG} {d : Nat} {M : MM} {P : Option Value → MM → Prop} {i1 : Int32} {la lb pa pb rl : Nat} (L : Lay M la lb pa pb rl)
    (k1 : K0 g YX12_needsShot YX12_isKept d 4 [.ref 130] [(0, .ref 130), (1, .int i1)] [] M P) :
    E0 g YX12_needsShot d 0 [(0, .ref 130), (1, .int i1)] [] M P := by
  have f1 : ob M 130 12 := L.s rfl (by decide)
  refine x_aload_n dX12_needsShot_0 0 rfl ?_
  refine EX.sub [0, 1] (K0.v (As := []) (st := []) cvX12_260 dX12_needsShot_1 rfl rfl f1 rfl (Nat.le_of_ble_eq_true rfl) (k1)) rfl
set_option maxRecDepth 8000 in
theorem qX12_needsShot_4 {g : GG} {d : Nat} {M : MM} {P : Option Value → MM → Prop} {i1 : Int32} {s0 : Int32} {la lb pa pb rl : Nat} (L : Lay M la lb pa pb rl)
    (k1 : s0 = 0 → K0 g YX12_needsShot YX12_shotNamed d 19 [.ref 130, .int i1] [(0, .ref 130)] [.ref 130] M P)
    (k2 : ¬ (s0 = 0) → K0 g YX12_needsShot YX12_fails d 12 [.ref 130, .int 1] [] [] M P) :
    E0 g YX12_needsShot d 4 [(0, .ref 130), (1, .int i1)] [.int s0] M P := by
  have f1 : ob M 130 12 := L.s rfl (by decide)
  refine x_if_eq 13 dX12_needsShot_4 (by decide) (fun c1 => ?_) (fun c1 => ?_)
  · refine x_aload_n dX12_needsShot_13 0 rfl ?_
    refine x_aload_n dX12_needsShot_14 0 rfl ?_
    refine x_iload_n dX12_needsShot_15 1 rfl ?_
    refine EX.sub [0] (K0.v (As := [.int i1]) (st := [.ref 130]) cvX12_264 dX12_needsShot_16 rfl rfl f1 rfl (Nat.le_of_ble_eq_true rfl) (k1 c1)) rfl
  · refine x_aload_n dX12_needsShot_7 0 rfl ?_
    refine x_iconst (v := 1) dX12_needsShot_8 (by decide) ?_
    refine EX.sub [] (K0.v (As := [.int 1]) (st := []) cvX12_202 dX12_needsShot_9 rfl rfl f1 rfl (Nat.le_of_ble_eq_true rfl) (k2 c1)) rfl
set_option maxRecDepth 8000 in
theorem qX12_needsShot_12 {g : GG} {d : Nat} {M : MM} {P : Option Value → MM → Prop} {s0 : Int32}
    (h1 : s0 &&& 1 = s0)
    (k1 : P (some (.int s0)) M) :
    E0 g YX12_needsShot d 12 [] [.int s0] M P := by
  exact x_zret rfl dX12_needsShot_12 (h1) (Nat.le_refl _) (Nat.le_refl _) (k1)
set_option maxRecDepth 8000 in
theorem qX12_needsShot_19 {g : GG} {d : Nat} {M : MM} {P : Option Value → MM → Prop} {s0 : Nat} {s1 : Int32} {M1 : MM} {la lb pa pb rl : Nat} (L : Lay M la lb pa pb rl)
    (qM1 : M1 = wi M s0 33 s1)
    (h1 : ob M s0 12)
    (k1 : 0 ≤ (mi M1 130 33) → P (some (.int 1)) M1)
    (k2 : ¬ (0 ≤ (mi M1 130 33)) → K0 g YX12_needsShot YX12_fails d 34 [.ref 130, .int 2] [] [] M1 P) :
    E0 g YX12_needsShot d 19 [(0, .ref 130)] [.int s1, .ref s0] M P := by
  have f1 : ob M 130 12 := L.s rfl (by decide)
  subst qM1
  refine x_putI fdX12_257 rfl (Or.inl rfl) dX12_needsShot_19 h1.1 h1.2 rfl rfl ?_
  refine x_aload_n dX12_needsShot_22 0 rfl ?_
  refine x_getI fdX12_257 rfl dX12_needsShot_23 f1.1 f1.2 ?_
  refine x_if_ge 37 dX12_needsShot_26 (by decide) (fun c1 => ?_) (fun c1 => ?_)
  · refine x_iconst (v := 1) dX12_needsShot_37 (by decide) ?_
    refine x_goto 42 dX12_needsShot_38 (by decide) ?_
    exact x_zret rfl dX12_needsShot_42 rfl (Nat.le_refl _) (Nat.le_refl _) (k1 c1)
  · refine x_aload_n dX12_needsShot_29 0 rfl ?_
    refine x_iconst (v := 2) dX12_needsShot_30 (by decide) ?_
    refine EX.sub [] (K0.v (As := [.int 2]) (st := []) cvX12_202 dX12_needsShot_31 rfl rfl f1 rfl (Nat.le_of_ble_eq_true rfl) (k2 c1)) rfl
set_option maxRecDepth 8000 in
theorem qX12_needsShot_34 {g : GG} {d : Nat} {M : MM} {P : Option Value → MM → Prop} {s0 : Int32}
    (k1 : s0 = 0 → P (some (.int 0)) M)
    (k2 : ¬ (s0 = 0) → P (some (.int 1)) M) :
    E0 g YX12_needsShot d 34 [] [.int s0] M P := by
  refine x_if_eq 41 dX12_needsShot_34 (by decide) (fun c1 => ?_) (fun c1 => ?_)
  · refine x_iconst (v := 0) dX12_needsShot_41 (by decide) ?_
    exact x_zret rfl dX12_needsShot_42 rfl (Nat.le_refl _) (Nat.le_refl _) (k1 c1)
  · refine x_iconst (v := 1) dX12_needsShot_37 (by decide) ?_
    refine x_goto 42 dX12_needsShot_38 (by decide) ?_
    exact x_zret rfl dX12_needsShot_42 rfl (Nat.le_refl _) (Nat.le_refl _) (k2 c1)
set_option maxRecDepth 8000 in
theorem qX12_needsHall_0 {g : GG} {d : Nat} {M : MM} {P : Option Value → MM → Prop}  {la lb pa pb rl : Nat} (L : Lay M la lb pa pb rl)
    (k1 : K0 g YX12_needsHall YX12_isKept d 4 [.ref 130] [(0, .ref 130)] [] M P) :
    E0 g YX12_needsHall d 0 [(0, .ref 130)] [] M P := by
  have f1 : ob M 130 12 := L.s rfl (by decide)
  refine x_aload_n dX12_needsHall_0 0 rfl ?_
  refine EX.sub [0] (K0.v (As := []) (st := []) cvX12_260 dX12_needsHall_1 rfl rfl f1 rfl (Nat.le_of_ble_eq_true rfl) (k1)) rfl
set_option maxRecDepth 8000 in
theorem qX12_needsHall_4 {g : GG} {d : Nat} {M : MM} {P : Option Value → MM → Prop} {s0 : Int32} {la lb pa pb rl : Nat} (L : Lay M la lb pa pb rl)
    (k1 : s0 = 0 → K0 g YX12_needsHall YX12_hallNamed d 19 [.ref 130, .int 0] [(0, .ref 130)] [.ref 130] M P)
    (k2 : ¬ (s0 = 0) → K0 g YX12_needsHall YX12_fails d 12 [.ref 130, .int 1] [] [] M P) :
    E0 g YX12_needsHall d 4 [(0, .ref 130)] [.int s0] M P := by
  have f1 : ob M 130 12 := L.s rfl (by decide)
  refine x_if_eq 13 dX12_needsHall_4 (by decide) (fun c1 => ?_) (fun c1 => ?_)
  · refine x_aload_n dX12_needsHall_13 0 rfl ?_
    refine x_aload_n dX12_needsHall_14 0 rfl ?_
    refine x_iconst (v := 0) dX12_needsHall_15 (by decide) ?_
    refine EX.sub [0] (K0.v (As := [.int 0]) (st := [.ref 130]) cvX12_267 dX12_needsHall_16 rfl rfl f1 rfl (Nat.le_of_ble_eq_true rfl) (k1 c1)) rfl
  · refine x_aload_n dX12_needsHall_7 0 rfl ?_
    refine x_iconst (v := 1) dX12_needsHall_8 (by decide) ?_
    refine EX.sub [] (K0.v (As := [.int 1]) (st := []) cvX12_202 dX12_needsHall_9 rfl rfl f1 rfl (Nat.le_of_ble_eq_true rfl) (k2 c1)) rfl
set_option maxRecDepth 8000 in
theorem qX12_needsHall_12 {g : GG} {d : Nat} {M : MM} {P : Option Value → MM → Prop} {s0 : Int32}
    (h1 : s0 &&& 1 = s0)
    (k1 : P (some (.int s0)) M) :
    E0 g YX12_needsHall d 12 [] [.int s0] M P := by
  exact x_zret rfl dX12_needsHall_12 (h1) (Nat.le_refl _) (Nat.le_refl _) (k1)
set_option maxRecDepth 8000 in
theorem qX12_needsHall_19 {g : GG} {d : Nat} {M : MM} {P : Option Value → MM → Prop} {s0 : Nat} {s1 : Int32} {M1 : MM} {la lb pa pb rl : Nat} (L : Lay M la lb pa pb rl)
    (qM1 : M1 = wi M s0 33 s1)
    (h1 : ob M s0 12)
    (k1 : 0 ≤ (mi M1 130 33) → P (some (.int 1)) M1)
    (k2 : ¬ (0 ≤ (mi M1 130 33)) → K0 g YX12_needsHall YX12_fails d 34 [.ref 130, .int 2] [] [] M1 P) :
    E0 g YX12_needsHall d 19 [(0, .ref 130)] [.int s1, .ref s0] M P := by
  have f1 : ob M 130 12 := L.s rfl (by decide)
  subst qM1
  refine x_putI fdX12_257 rfl (Or.inl rfl) dX12_needsHall_19 h1.1 h1.2 rfl rfl ?_
  refine x_aload_n dX12_needsHall_22 0 rfl ?_
  refine x_getI fdX12_257 rfl dX12_needsHall_23 f1.1 f1.2 ?_
  refine x_if_ge 37 dX12_needsHall_26 (by decide) (fun c1 => ?_) (fun c1 => ?_)
  · refine x_iconst (v := 1) dX12_needsHall_37 (by decide) ?_
    refine x_goto 42 dX12_needsHall_38 (by decide) ?_
    exact x_zret rfl dX12_needsHall_42 rfl (Nat.le_refl _) (Nat.le_refl _) (k1 c1)
  · refine x_aload_n dX12_needsHall_29 0 rfl ?_
    refine x_iconst (v := 2) dX12_needsHall_30 (by decide) ?_
    refine EX.sub [] (K0.v (As := [.int 2]) (st := []) cvX12_202 dX12_needsHall_31 rfl rfl f1 rfl (Nat.le_of_ble_eq_true rfl) (k2 c1)) rfl
set_option maxRecDepth 8000 in
theorem qX12_needsHall_34 {g : GG} {d : Nat} {M : MM} {P : Option Value → MM → Prop} {s0 : Int32}
    (k1 : s0 = 0 → P (some (.int 0)) M)
    (k2 : ¬ (s0 = 0) → P (some (.int 1)) M) :
    E0 g YX12_needsHall d 34 [] [.int s0] M P := by
  refine x_if_eq 41 dX12_needsHall_34 (by decide) (fun c1 => ?_) (fun c1 => ?_)
  · refine x_iconst (v := 0) dX12_needsHall_41 (by decide) ?_
    exact x_zret rfl dX12_needsHall_42 rfl (Nat.le_refl _) (Nat.le_refl _) (k1 c1)
  · refine x_iconst (v := 1) dX12_needsHall_37 (by decide) ?_
    refine x_goto 42 dX12_needsHall_38 (by decide) ?_
    exact x_zret rfl dX12_needsHall_42 rfl (Nat.le_refl _) (Nat.le_refl _) (k2 c1)
set_option maxRecDepth 8000 in
theorem qX12_readsShot_0 {g : GG} {d : Nat} {M : MM} {P : Option Value → MM → Prop}  {la lb pa pb rl : Nat} (L : Lay M la lb pa pb rl)
    (k1 : ¬ (10 + (mi M 132 2)) = 20 → K0 g YX12_readsShot YX12_nextToken d 26 [.ref 130] [(0, .ref 130), (1, .int (10 + (mi M 132 2)))] [] M P)
    (k2 : (10 + (mi M 132 2)) = 20 → K0 g YX12_readsShot YX12_fails d 21 [.ref 130, .int 5] [] [] M P) :
    E0 g YX12_readsShot d 0 [(0, .ref 130)] [] M P := by
  have f1 : ob M 130 12 := L.s rfl (by decide)
  have f2 : mr M 130 10 = some 132 := L.r 127 rfl
  have f3 : ar M 132 1 4 := L.s rfl (by decide)
  refine x_bipush (v := 10) dX12_readsShot_0 (by decide) ?_
  refine x_aload_n dX12_readsShot_2 0 rfl ?_
  refine x_getR fdX12_13 rfl dX12_readsShot_3 f1.1 f1.2 f2 ?_
  refine x_iconst (v := 2) dX12_readsShot_6 (by decide) ?_
  refine x_iald dX12_readsShot_7 f3.1 f3.2 (by unfold vp_in; decide) ?_
  refine x_iadd dX12_readsShot_8 ?_
  refine x_istore_n (lv1 := [(1, .int (10 + (mi M 132 2))), (0, .ref 130)]) dX12_readsShot_9 (by decide) rfl ?_
  refine x_iload_n dX12_readsShot_10 0 rfl ?_
  refine x_bipush (v := 20) dX12_readsShot_11 (by decide) ?_
  refine x_ic_ne 22 dX12_readsShot_13 (by decide) (fun c1 => ?_) (fun c1 => ?_)
  · refine x_aload_n dX12_readsShot_22 1 rfl ?_
    refine EX.sub [1, 0] (K0.v (As := []) (st := []) cvX12_209 dX12_readsShot_23 rfl rfl f1 rfl (Nat.le_of_ble_eq_true rfl) (k1 c1)) rfl
  · refine x_aload_n dX12_readsShot_16 1 rfl ?_
    refine x_iconst (v := 5) dX12_readsShot_17 (by decide) ?_
    refine EX.sub [] (K0.v (As := [.int 5]) (st := []) cvX12_202 dX12_readsShot_18 rfl rfl f1 rfl (Nat.le_of_ble_eq_true rfl) (k2 c1)) rfl
set_option maxRecDepth 8000 in
theorem qX12_readsShot_21 {g : GG} {d : Nat} {M : MM} {P : Option Value → MM → Prop} {s0 : Int32}
    (h1 : s0 &&& 1 = s0)
    (k1 : P (some (.int s0)) M) :
    E0 g YX12_readsShot d 21 [] [.int s0] M P := by
  exact x_zret rfl dX12_readsShot_21 (h1) (Nat.le_refl _) (Nat.le_refl _) (k1)
set_option maxRecDepth 8000 in
theorem qX12_readsShot_26 {g : GG} {d : Nat} {M : MM} {P : Option Value → MM → Prop} {i1 : Int32} {la lb pa pb rl : Nat} (L : Lay M la lb pa pb rl)
    (k1 : K0 g YX12_readsShot YX12_needsNew d 30 [.ref 130] [(0, .ref 130), (1, .int i1)] [] M P) :
    E0 g YX12_readsShot d 26 [(0, .ref 130), (1, .int i1)] [] M P := by
  have f1 : ob M 130 12 := L.s rfl (by decide)
  refine x_aload_n dX12_readsShot_26 0 rfl ?_
  refine EX.sub [0, 1] (K0.v (As := []) (st := []) cvX12_272 dX12_readsShot_27 rfl rfl f1 rfl (Nat.le_of_ble_eq_true rfl) (k1)) rfl
set_option maxRecDepth 8000 in
theorem qX12_readsShot_30 {g : GG} {d : Nat} {M : MM} {P : Option Value → MM → Prop} {i1 : Int32} {s0 : Int32} {la lb pa pb rl : Nat} (L : Lay M la lb pa pb rl)
    (k1 : s0 = 0 → P (some (.int 0)) M)
    (k2 : ¬ (s0 = 0) → K0 g YX12_readsShot YX12_needsWord d 40 [.ref 130, .long (385418)] [(0, .ref 130), (1, .int i1)] [] M P) :
    E0 g YX12_readsShot d 30 [(0, .ref 130), (1, .int i1)] [.int s0] M P := by
  have f1 : ob M 130 12 := L.s rfl (by decide)
  refine x_if_eq 53 dX12_readsShot_30 (by decide) (fun c1 => ?_) (fun c1 => ?_)
  · refine x_iconst (v := 0) dX12_readsShot_53 (by decide) ?_
    exact x_zret rfl dX12_readsShot_54 rfl (Nat.le_refl _) (Nat.le_refl _) (k1 c1)
  · refine x_aload_n dX12_readsShot_33 0 rfl ?_
    refine x_ldc2 dX12_readsShot_34 kcX12_227 ?_
    refine EX.sub [0, 1] (K0.v (As := [.long (385418)]) (st := []) cvX12_275 dX12_readsShot_37 rfl rfl f1 rfl (Nat.le_of_ble_eq_true rfl) (k2 c1)) rfl
set_option maxRecDepth 8000 in
theorem qX12_readsShot_40 {g : GG} {d : Nat} {M : MM} {P : Option Value → MM → Prop} {i1 : Int32} {s0 : Int32} {la lb pa pb rl : Nat} (L : Lay M la lb pa pb rl)
    (k1 : s0 = 0 → P (some (.int 0)) M)
    (k2 : ¬ (s0 = 0) → K0 g YX12_readsShot YX12_needsNumber d 50 [.ref 130, .int 0, .int 9] [(0, .ref 130), (1, .int i1)] [] M P) :
    E0 g YX12_readsShot d 40 [(0, .ref 130), (1, .int i1)] [.int s0] M P := by
  have f1 : ob M 130 12 := L.s rfl (by decide)
  refine x_if_eq 53 dX12_readsShot_40 (by decide) (fun c1 => ?_) (fun c1 => ?_)
  · refine x_iconst (v := 0) dX12_readsShot_53 (by decide) ?_
    exact x_zret rfl dX12_readsShot_54 rfl (Nat.le_refl _) (Nat.le_refl _) (k1 c1)
  · refine x_aload_n dX12_readsShot_43 0 rfl ?_
    refine x_iconst (v := 0) dX12_readsShot_44 (by decide) ?_
    refine x_bipush (v := 9) dX12_readsShot_45 (by decide) ?_
    refine EX.sub [0, 1] (K0.v (As := [.int 0, .int 9]) (st := []) cvX12_278 dX12_readsShot_47 rfl rfl f1 rfl (Nat.le_of_ble_eq_true rfl) (k2 c1)) rfl
set_option maxRecDepth 8000 in
theorem qX12_readsShot_50 {g : GG} {d : Nat} {M : MM} {P : Option Value → MM → Prop} {i1 : Int32} {s0 : Int32} {M1 : MM} {la lb pa pb rl : Nat} (L : Lay M la lb pa pb rl)
    (qM1 : M1 = wi M 135 (i1 : Int32).toNatClampNeg (mi M 130 33))
    (h1 : ¬ s0 = 0 → vp_in i1 20)
    (k1 : ¬ s0 = 0 → K0 g YX12_readsShot YX12_needsWord d 72 [.ref 130, .long (247516)] [(0, .ref 130), (1, .int i1)] [] M1 P)
    (k2 : s0 = 0 → P (some (.int 0)) M) :
    E0 g YX12_readsShot d 50 [(0, .ref 130), (1, .int i1)] [.int s0] M P := by
  have f1 : ob M 130 12 := L.s rfl (by decide)
  have f2 : mr M 130 13 = some 135 := L.r 130 rfl
  have f3 : ar M 135 1 20 := L.s rfl (by decide)
  subst qM1
  refine x_if_ne 55 dX12_readsShot_50 (by decide) (fun c1 => ?_) (fun c1 => ?_)
  · refine x_aload_n dX12_readsShot_55 0 rfl ?_
    refine x_getR fdX12_23 rfl dX12_readsShot_56 f1.1 f1.2 f2 ?_
    refine x_iload_n dX12_readsShot_59 1 rfl ?_
    refine x_aload_n dX12_readsShot_60 0 rfl ?_
    refine x_getI fdX12_257 rfl dX12_readsShot_61 f1.1 f1.2 ?_
    refine x_iast dX12_readsShot_64 f3.1 f3.2 (h1 c1) ?_
    refine x_aload_n dX12_readsShot_65 0 rfl ?_
    refine x_ldc2 dX12_readsShot_66 kcX12_229 ?_
    refine EX.sub [0, 1] (K0.v (As := [.long (247516)]) (st := []) cvX12_275 dX12_readsShot_69 rfl rfl f1 rfl (Nat.le_of_ble_eq_true rfl) (k1 c1)) rfl
  · refine x_iconst (v := 0) dX12_readsShot_53 (by decide) ?_
    exact x_zret rfl dX12_readsShot_54 rfl (Nat.le_refl _) (Nat.le_refl _) (k2 c1)
set_option maxRecDepth 8000 in
theorem qX12_readsShot_72 {g : GG} {d : Nat} {M : MM} {P : Option Value → MM → Prop} {i1 : Int32} {s0 : Int32} {la lb pa pb rl : Nat} (L : Lay M la lb pa pb rl)
    (k1 : s0 = 0 → P (some (.int 0)) M)
    (k2 : ¬ (s0 = 0) → K0 g YX12_readsShot YX12_needsNumber d 82 [.ref 130, .int 1, .int 60] [(0, .ref 130), (1, .int i1)] [] M P) :
    E0 g YX12_readsShot d 72 [(0, .ref 130), (1, .int i1)] [.int s0] M P := by
  have f1 : ob M 130 12 := L.s rfl (by decide)
  refine x_if_eq 85 dX12_readsShot_72 (by decide) (fun c1 => ?_) (fun c1 => ?_)
  · refine x_iconst (v := 0) dX12_readsShot_85 (by decide) ?_
    exact x_zret rfl dX12_readsShot_86 rfl (Nat.le_refl _) (Nat.le_refl _) (k1 c1)
  · refine x_aload_n dX12_readsShot_75 0 rfl ?_
    refine x_iconst (v := 1) dX12_readsShot_76 (by decide) ?_
    refine x_bipush (v := 60) dX12_readsShot_77 (by decide) ?_
    refine EX.sub [0, 1] (K0.v (As := [.int 1, .int 60]) (st := []) cvX12_278 dX12_readsShot_79 rfl rfl f1 rfl (Nat.le_of_ble_eq_true rfl) (k2 c1)) rfl
set_option maxRecDepth 8000 in
theorem qX12_readsShot_82 {g : GG} {d : Nat} {M : MM} {P : Option Value → MM → Prop} {i1 : Int32} {s0 : Int32} {M1 : MM} {M2 : MM} {M3 : MM} {M4 : MM} {la lb pa pb rl : Nat} (L : Lay M la lb pa pb rl)
    (qM1 : M1 = wi M 136 (i1 : Int32).toNatClampNeg (mi M 130 33))
    (qM2 : M2 = wi M1 137 (i1 : Int32).toNatClampNeg 0)
    (qM3 : M3 = wj M2 133 (i1 : Int32).toNatClampNeg (mj M 130 34))
    (qM4 : M4 = wi M3 132 2 ((mi M2 132 2) + 1))
    (h1 : ¬ s0 = 0 → vp_in i1 20)
    (h2 : ¬ s0 = 0 → vp_in i1 20)
    (h3 : ¬ s0 = 0 → vp_in i1 20)
    (k1 : ¬ s0 = 0 → K0 g YX12_readsShot YX12_closes d 128 [.ref 130] [] [] M4 P)
    (k2 : s0 = 0 → P (some (.int 0)) M) :
    E0 g YX12_readsShot d 82 [(0, .ref 130), (1, .int i1)] [.int s0] M P := by
  have f1 : ob M 130 12 := L.s rfl (by decide)
  have f2 : mr M 130 14 = some 136 := L.r 131 rfl
  have f3 : ar M 136 1 20 := L.s rfl (by decide)
  have f4 : mr M 130 15 = some 137 := L.r 132 rfl
  have f5 : ar M 137 1 20 := L.s rfl (by decide)
  have f6 : mr M 130 11 = some 133 := L.r 128 rfl
  have f7 : ar M 133 2 20 := L.s rfl (by decide)
  have f8 : mr M 130 10 = some 132 := L.r 127 rfl
  have f9 : ar M 132 1 4 := L.s rfl (by decide)
  subst qM1 qM2 qM3 qM4
  refine x_if_ne 87 dX12_readsShot_82 (by decide) (fun c1 => ?_) (fun c1 => ?_)
  · refine x_aload_n dX12_readsShot_87 0 rfl ?_
    refine x_getR fdX12_26 rfl dX12_readsShot_88 f1.1 f1.2 f2 ?_
    refine x_iload_n dX12_readsShot_91 1 rfl ?_
    refine x_aload_n dX12_readsShot_92 0 rfl ?_
    refine x_getI fdX12_257 rfl dX12_readsShot_93 f1.1 f1.2 ?_
    refine x_iast dX12_readsShot_96 f3.1 f3.2 (h1 c1) ?_
    refine x_aload_n dX12_readsShot_97 0 rfl ?_
    refine x_getR fdX12_29 rfl dX12_readsShot_98 f1.1 f1.2 f4 ?_
    refine x_iload_n dX12_readsShot_101 1 rfl ?_
    refine x_iconst (v := 0) dX12_readsShot_102 (by decide) ?_
    refine x_iast dX12_readsShot_103 f5.1 f5.2 (h2 c1) ?_
    refine x_aload_n dX12_readsShot_104 0 rfl ?_
    refine x_getR fdX12_16 rfl dX12_readsShot_105 f1.1 f1.2 f6 ?_
    refine x_iload_n dX12_readsShot_108 1 rfl ?_
    refine x_aload_n dX12_readsShot_109 0 rfl ?_
    refine x_getJ fdX12_270 rfl dX12_readsShot_110 f1.1 f1.2 ?_
    refine x_last dX12_readsShot_113 f7.1 f7.2 (h3 c1) ?_
    refine x_aload_n dX12_readsShot_114 0 rfl ?_
    refine x_getR fdX12_13 rfl dX12_readsShot_115 f1.1 f1.2 f8 ?_
    refine x_iconst (v := 2) dX12_readsShot_118 (by decide) ?_
    refine x_dup2 dX12_readsShot_119 rfl rfl ?_
    refine x_iald dX12_readsShot_120 f9.1 f9.2 (by unfold vp_in; decide) ?_
    refine x_iconst (v := 1) dX12_readsShot_121 (by decide) ?_
    refine x_iadd dX12_readsShot_122 ?_
    refine x_iast dX12_readsShot_123 f9.1 f9.2 (by unfold vp_in; decide) ?_
    refine x_aload_n dX12_readsShot_124 0 rfl ?_
    refine EX.sub [] (K0.v (As := []) (st := []) cvX12_282 dX12_readsShot_125 rfl rfl f1 rfl (Nat.le_of_ble_eq_true rfl) (k1 c1)) rfl
  · refine x_iconst (v := 0) dX12_readsShot_85 (by decide) ?_
    exact x_zret rfl dX12_readsShot_86 rfl (Nat.le_refl _) (Nat.le_refl _) (k2 c1)
set_option maxRecDepth 8000 in
theorem qX12_readsShot_128 {g : GG} {d : Nat} {M : MM} {P : Option Value → MM → Prop} {s0 : Int32}
    (h1 : s0 &&& 1 = s0)
    (k1 : P (some (.int s0)) M) :
    E0 g YX12_readsShot d 128 [] [.int s0] M P := by
  exact x_zret rfl dX12_readsShot_128 (h1) (Nat.le_refl _) (Nat.le_refl _) (k1)
set_option maxRecDepth 8000 in
theorem qX12_readsNeeds_0 {g : GG} {d : Nat} {M : MM} {P : Option Value → MM → Prop}  {la lb pa pb rl : Nat} (L : Lay M la lb pa pb rl)
    (k1 : K0 g YX12_readsNeeds YX12_nextToken d 4 [.ref 130] [(0, .ref 130)] [] M P) :
    E0 g YX12_readsNeeds d 0 [(0, .ref 130)] [] M P := by
  have f1 : ob M 130 12 := L.s rfl (by decide)
  refine x_aload_n dX12_readsNeeds_0 0 rfl ?_
  refine EX.sub [0] (K0.v (As := []) (st := []) cvX12_209 dX12_readsNeeds_1 rfl rfl f1 rfl (Nat.le_of_ble_eq_true rfl) (k1)) rfl
set_option maxRecDepth 8000 in
theorem qX12_readsNeeds_4 {g : GG} {d : Nat} {M : MM} {P : Option Value → MM → Prop}  {la lb pa pb rl : Nat} (L : Lay M la lb pa pb rl)
    (k1 : K0 g YX12_readsNeeds YX12_needsShot d 9 [.ref 130, .int 1] [(0, .ref 130)] [] M P) :
    E0 g YX12_readsNeeds d 4 [(0, .ref 130)] [] M P := by
  have f1 : ob M 130 12 := L.s rfl (by decide)
  refine x_aload_n dX12_readsNeeds_4 0 rfl ?_
  refine x_iconst (v := 1) dX12_readsNeeds_5 (by decide) ?_
  refine EX.sub [0] (K0.v (As := [.int 1]) (st := []) cvX12_285 dX12_readsNeeds_6 rfl rfl f1 rfl (Nat.le_of_ble_eq_true rfl) (k1)) rfl
set_option maxRecDepth 8000 in
theorem qX12_readsNeeds_9 {g : GG} {d : Nat} {M : MM} {P : Option Value → MM → Prop} {s0 : Int32} {la lb pa pb rl : Nat} (L : Lay M la lb pa pb rl)
    (k1 : ¬ s0 = 0 → K0 g YX12_readsNeeds YX12_nextToken d 23 [.ref 130] [(0, .ref 130), (1, .int (mi M 130 33))] [] M P)
    (k2 : s0 = 0 → P (some (.int 0)) M) :
    E0 g YX12_readsNeeds d 9 [(0, .ref 130)] [.int s0] M P := by
  have f1 : ob M 130 12 := L.s rfl (by decide)
  refine x_if_ne 14 dX12_readsNeeds_9 (by decide) (fun c1 => ?_) (fun c1 => ?_)
  · refine x_aload_n dX12_readsNeeds_14 0 rfl ?_
    refine x_getI fdX12_257 rfl dX12_readsNeeds_15 f1.1 f1.2 ?_
    refine x_istore_n (lv1 := [(1, .int (mi M 130 33)), (0, .ref 130)]) dX12_readsNeeds_18 (by decide) rfl ?_
    refine x_aload_n dX12_readsNeeds_19 1 rfl ?_
    refine EX.sub [1, 0] (K0.v (As := []) (st := []) cvX12_209 dX12_readsNeeds_20 rfl rfl f1 rfl (Nat.le_of_ble_eq_true rfl) (k1 c1)) rfl
  · refine x_iconst (v := 0) dX12_readsNeeds_12 (by decide) ?_
    exact x_zret rfl dX12_readsNeeds_13 rfl (Nat.le_refl _) (Nat.le_refl _) (k2 c1)
set_option maxRecDepth 8000 in
theorem qX12_readsNeeds_23 {g : GG} {d : Nat} {M : MM} {P : Option Value → MM → Prop} {i1 : Int32} {la lb pa pb rl : Nat} (L : Lay M la lb pa pb rl)
    (k1 : K0 g YX12_readsNeeds YX12_needsShot d 28 [.ref 130, .int 1] [(0, .ref 130), (1, .int i1)] [] M P) :
    E0 g YX12_readsNeeds d 23 [(0, .ref 130), (1, .int i1)] [] M P := by
  have f1 : ob M 130 12 := L.s rfl (by decide)
  refine x_aload_n dX12_readsNeeds_23 0 rfl ?_
  refine x_iconst (v := 1) dX12_readsNeeds_24 (by decide) ?_
  refine EX.sub [0, 1] (K0.v (As := [.int 1]) (st := []) cvX12_285 dX12_readsNeeds_25 rfl rfl f1 rfl (Nat.le_of_ble_eq_true rfl) (k1)) rfl
set_option maxRecDepth 8000 in
theorem qX12_readsNeeds_28 {g : GG} {d : Nat} {M : MM} {P : Option Value → MM → Prop} {i1 : Int32} {s0 : Int32} {M1 : MM} {la lb pa pb rl : Nat} (L : Lay M la lb pa pb rl)
    (qM1 : M1 = wi M 137 ((10 + i1) : Int32).toNatClampNeg ((mi M 137 ((10 + i1) : Int32).toNatClampNeg) ||| ((1 : Int32) <<< ((mi M 130 33) &&& 31))))
    (h1 : ¬ s0 = 0 → ¬ ((mi M 130 33) = i1) → vp_in (10 + i1) 20)
    (h2 : ¬ s0 = 0 → ¬ ((mi M 130 33) = i1) → ¬ (((mi M 137 ((10 + i1) : Int32).toNatClampNeg) >>> ((mi M 130 33) &&& 31)) &&& 1) = 1 → vp_in (10 + i1) 20)
    (k1 : ¬ s0 = 0 → (mi M 130 33) = i1 → K0 g YX12_readsNeeds YX12_fails d 66 [.ref 130, .int 3] [] [] M P)
    (k2 : ¬ s0 = 0 → ¬ ((mi M 130 33) = i1) → ¬ (((mi M 137 ((10 + i1) : Int32).toNatClampNeg) >>> ((mi M 130 33) &&& 31)) &&& 1) = 1 → K0 g YX12_readsNeeds YX12_nextToken d 89 [.ref 130] [(0, .ref 130)] [] M1 P)
    (k3 : ¬ s0 = 0 → ¬ ((mi M 130 33) = i1) → (((mi M 137 ((10 + i1) : Int32).toNatClampNeg) >>> ((mi M 130 33) &&& 31)) &&& 1) = 1 → K0 g YX12_readsNeeds YX12_fails d 66 [.ref 130, .int 3] [] [] M P)
    (k4 : s0 = 0 → P (some (.int 0)) M) :
    E0 g YX12_readsNeeds d 28 [(0, .ref 130), (1, .int i1)] [.int s0] M P := by
  have f1 : ob M 130 12 := L.s rfl (by decide)
  have f2 : mr M 130 15 = some 137 := L.r 132 rfl
  have f3 : ar M 137 1 20 := L.s rfl (by decide)
  subst qM1
  refine x_if_ne 33 dX12_readsNeeds_28 (by decide) (fun c1 => ?_) (fun c1 => ?_)
  · refine x_aload_n dX12_readsNeeds_33 0 rfl ?_
    refine x_getI fdX12_257 rfl dX12_readsNeeds_34 f1.1 f1.2 ?_
    refine x_iload_n dX12_readsNeeds_37 1 rfl ?_
    refine x_ic_eq 61 dX12_readsNeeds_38 (by decide) (fun c2 => ?_) (fun c2 => ?_)
    · refine x_aload_n dX12_readsNeeds_61 0 rfl ?_
      refine x_iconst (v := 3) dX12_readsNeeds_62 (by decide) ?_
      refine EX.sub [] (K0.v (As := [.int 3]) (st := []) cvX12_202 dX12_readsNeeds_63 rfl rfl f1 rfl (Nat.le_of_ble_eq_true rfl) (k1 c1 c2)) rfl
    · refine x_aload_n dX12_readsNeeds_41 0 rfl ?_
      refine x_getR fdX12_29 rfl dX12_readsNeeds_42 f1.1 f1.2 f2 ?_
      refine x_bipush (v := 10) dX12_readsNeeds_45 (by decide) ?_
      refine x_iload_n dX12_readsNeeds_47 1 rfl ?_
      refine x_iadd dX12_readsNeeds_48 ?_
      refine x_iald dX12_readsNeeds_49 f3.1 f3.2 (h1 c1 c2) ?_
      refine x_aload_n dX12_readsNeeds_50 0 rfl ?_
      refine x_getI fdX12_257 rfl dX12_readsNeeds_51 f1.1 f1.2 ?_
      refine x_ishr dX12_readsNeeds_54 ?_
      refine x_iconst (v := 1) dX12_readsNeeds_55 (by decide) ?_
      refine x_iand dX12_readsNeeds_56 ?_
      refine x_iconst (v := 1) dX12_readsNeeds_57 (by decide) ?_
      refine x_ic_ne 67 dX12_readsNeeds_58 (by decide) (fun c3 => ?_) (fun c3 => ?_)
      · refine x_aload_n dX12_readsNeeds_67 0 rfl ?_
        refine x_getR fdX12_29 rfl dX12_readsNeeds_68 f1.1 f1.2 f2 ?_
        refine x_bipush (v := 10) dX12_readsNeeds_71 (by decide) ?_
        refine x_iload_n dX12_readsNeeds_73 1 rfl ?_
        refine x_iadd dX12_readsNeeds_74 ?_
        refine x_dup2 dX12_readsNeeds_75 rfl rfl ?_
        refine x_iald dX12_readsNeeds_76 f3.1 f3.2 (h2 c1 c2 c3) ?_
        refine x_iconst (v := 1) dX12_readsNeeds_77 (by decide) ?_
        refine x_aload_n dX12_readsNeeds_78 0 rfl ?_
        refine x_getI fdX12_257 rfl dX12_readsNeeds_79 f1.1 f1.2 ?_
        refine x_ishl dX12_readsNeeds_82 ?_
        refine x_ior dX12_readsNeeds_83 ?_
        refine x_iast dX12_readsNeeds_84 f3.1 f3.2 (h2 c1 c2 c3) ?_
        refine x_aload_n dX12_readsNeeds_85 0 rfl ?_
        refine EX.sub [0] (K0.v (As := []) (st := []) cvX12_209 dX12_readsNeeds_86 rfl rfl f1 rfl (Nat.le_of_ble_eq_true rfl) (k2 c1 c2 c3)) rfl
      · refine x_aload_n dX12_readsNeeds_61 0 rfl ?_
        refine x_iconst (v := 3) dX12_readsNeeds_62 (by decide) ?_
        refine EX.sub [] (K0.v (As := [.int 3]) (st := []) cvX12_202 dX12_readsNeeds_63 rfl rfl f1 rfl (Nat.le_of_ble_eq_true rfl) (k3 c1 c2 c3)) rfl
  · refine x_iconst (v := 0) dX12_readsNeeds_31 (by decide) ?_
    exact x_zret rfl dX12_readsNeeds_32 rfl (Nat.le_refl _) (Nat.le_refl _) (k4 c1)
set_option maxRecDepth 8000 in
theorem qX12_readsNeeds_66 {g : GG} {d : Nat} {M : MM} {P : Option Value → MM → Prop} {s0 : Int32}
    (h1 : s0 &&& 1 = s0)
    (k1 : P (some (.int s0)) M) :
    E0 g YX12_readsNeeds d 66 [] [.int s0] M P := by
  exact x_zret rfl dX12_readsNeeds_66 (h1) (Nat.le_refl _) (Nat.le_refl _) (k1)
set_option maxRecDepth 8000 in
theorem qX12_readsNeeds_89 {g : GG} {d : Nat} {M : MM} {P : Option Value → MM → Prop}  {la lb pa pb rl : Nat} (L : Lay M la lb pa pb rl)
    (k1 : K0 g YX12_readsNeeds YX12_closes d 93 [.ref 130] [] [] M P) :
    E0 g YX12_readsNeeds d 89 [(0, .ref 130)] [] M P := by
  have f1 : ob M 130 12 := L.s rfl (by decide)
  refine x_aload_n dX12_readsNeeds_89 0 rfl ?_
  refine EX.sub [] (K0.v (As := []) (st := []) cvX12_282 dX12_readsNeeds_90 rfl rfl f1 rfl (Nat.le_of_ble_eq_true rfl) (k1)) rfl
set_option maxRecDepth 8000 in
theorem qX12_readsNeeds_93 {g : GG} {d : Nat} {M : MM} {P : Option Value → MM → Prop} {s0 : Int32}
    (h1 : s0 &&& 1 = s0)
    (k1 : P (some (.int s0)) M) :
    E0 g YX12_readsNeeds d 93 [] [.int s0] M P := by
  exact x_zret rfl dX12_readsNeeds_93 (h1) (Nat.le_refl _) (Nat.le_refl _) (k1)
set_option maxRecDepth 8000 in
theorem qX12_readsHall_0 {g : GG} {d : Nat} {M : MM} {P : Option Value → MM → Prop}  {la lb pa pb rl : Nat} (L : Lay M la lb pa pb rl)
    (k1 : ¬ (6 + (mi M 132 3)) = 12 → K0 g YX12_readsHall YX12_nextToken d 26 [.ref 130] [(0, .ref 130), (1, .int (6 + (mi M 132 3)))] [] M P)
    (k2 : (6 + (mi M 132 3)) = 12 → K0 g YX12_readsHall YX12_fails d 21 [.ref 130, .int 5] [] [] M P) :
    E0 g YX12_readsHall d 0 [(0, .ref 130)] [] M P := by
  have f1 : ob M 130 12 := L.s rfl (by decide)
  have f2 : mr M 130 10 = some 132 := L.r 127 rfl
  have f3 : ar M 132 1 4 := L.s rfl (by decide)
  refine x_bipush (v := 6) dX12_readsHall_0 (by decide) ?_
  refine x_aload_n dX12_readsHall_2 0 rfl ?_
  refine x_getR fdX12_13 rfl dX12_readsHall_3 f1.1 f1.2 f2 ?_
  refine x_iconst (v := 3) dX12_readsHall_6 (by decide) ?_
  refine x_iald dX12_readsHall_7 f3.1 f3.2 (by unfold vp_in; decide) ?_
  refine x_iadd dX12_readsHall_8 ?_
  refine x_istore_n (lv1 := [(1, .int (6 + (mi M 132 3))), (0, .ref 130)]) dX12_readsHall_9 (by decide) rfl ?_
  refine x_iload_n dX12_readsHall_10 0 rfl ?_
  refine x_bipush (v := 12) dX12_readsHall_11 (by decide) ?_
  refine x_ic_ne 22 dX12_readsHall_13 (by decide) (fun c1 => ?_) (fun c1 => ?_)
  · refine x_aload_n dX12_readsHall_22 1 rfl ?_
    refine EX.sub [1, 0] (K0.v (As := []) (st := []) cvX12_209 dX12_readsHall_23 rfl rfl f1 rfl (Nat.le_of_ble_eq_true rfl) (k1 c1)) rfl
  · refine x_aload_n dX12_readsHall_16 1 rfl ?_
    refine x_iconst (v := 5) dX12_readsHall_17 (by decide) ?_
    refine EX.sub [] (K0.v (As := [.int 5]) (st := []) cvX12_202 dX12_readsHall_18 rfl rfl f1 rfl (Nat.le_of_ble_eq_true rfl) (k2 c1)) rfl
set_option maxRecDepth 8000 in
theorem qX12_readsHall_21 {g : GG} {d : Nat} {M : MM} {P : Option Value → MM → Prop} {s0 : Int32}
    (h1 : s0 &&& 1 = s0)
    (k1 : P (some (.int s0)) M) :
    E0 g YX12_readsHall d 21 [] [.int s0] M P := by
  exact x_zret rfl dX12_readsHall_21 (h1) (Nat.le_refl _) (Nat.le_refl _) (k1)
set_option maxRecDepth 8000 in
theorem qX12_readsHall_26 {g : GG} {d : Nat} {M : MM} {P : Option Value → MM → Prop} {i1 : Int32} {la lb pa pb rl : Nat} (L : Lay M la lb pa pb rl)
    (k1 : K0 g YX12_readsHall YX12_needsNew d 30 [.ref 130] [(0, .ref 130), (1, .int i1)] [] M P) :
    E0 g YX12_readsHall d 26 [(0, .ref 130), (1, .int i1)] [] M P := by
  have f1 : ob M 130 12 := L.s rfl (by decide)
  refine x_aload_n dX12_readsHall_26 0 rfl ?_
  refine EX.sub [0, 1] (K0.v (As := []) (st := []) cvX12_272 dX12_readsHall_27 rfl rfl f1 rfl (Nat.le_of_ble_eq_true rfl) (k1)) rfl
set_option maxRecDepth 8000 in
theorem qX12_readsHall_30 {g : GG} {d : Nat} {M : MM} {P : Option Value → MM → Prop} {i1 : Int32} {s0 : Int32} {la lb pa pb rl : Nat} (L : Lay M la lb pa pb rl)
    (k1 : ¬ s0 = 0 → K0 g YX12_readsHall YX12_isWord d 52 [.ref 130, .long (8740238)] [(0, .ref 130), (1, .int i1), (2, .long (mj M 130 34))] [.int i1, .ref 138] M P)
    (k2 : s0 = 0 → P (some (.int 0)) M) :
    E0 g YX12_readsHall d 30 [(0, .ref 130), (1, .int i1)] [.int s0] M P := by
  have f1 : ob M 130 12 := L.s rfl (by decide)
  have f2 : mr M 130 16 = some 138 := L.r 133 rfl
  refine x_if_ne 35 dX12_readsHall_30 (by decide) (fun c1 => ?_) (fun c1 => ?_)
  · refine x_aload_n dX12_readsHall_35 0 rfl ?_
    refine x_getJ fdX12_270 rfl dX12_readsHall_36 f1.1 f1.2 ?_
    refine x_lstore_n (lv1 := [(2, .long (mj M 130 34)), (0, .ref 130), (1, .int i1)]) dX12_readsHall_39 (by decide) rfl ?_
    refine x_aload_n dX12_readsHall_40 1 rfl ?_
    refine x_getR fdX12_32 rfl dX12_readsHall_41 f1.1 f1.2 f2 ?_
    refine x_iload_n dX12_readsHall_44 2 rfl ?_
    refine x_aload_n dX12_readsHall_45 1 rfl ?_
    refine x_ldc2 dX12_readsHall_46 kcX12_245 ?_
    refine EX.sub [1, 2, 0] (K0.v (As := [.long (8740238)]) (st := [.int i1, .ref 138]) cvX12_194 dX12_readsHall_49 rfl rfl f1 rfl (Nat.le_of_ble_eq_true rfl) (k1 c1)) rfl
  · refine x_iconst (v := 0) dX12_readsHall_33 (by decide) ?_
    exact x_zret rfl dX12_readsHall_34 rfl (Nat.le_refl _) (Nat.le_refl _) (k2 c1)
set_option maxRecDepth 8000 in
theorem qX12_readsHall_52 {g : GG} {d : Nat} {M : MM} {P : Option Value → MM → Prop} {i1 : Int32} {j2 : Int64} {s0 : Nat} {s1 : Int32} {s2 : Int32} {n_s0 : Nat} {M1 : MM} {la lb pa pb rl : Nat} (L : Lay M la lb pa pb rl)
    (qM1 : M1 = wi M s0 (s1 : Int32).toNatClampNeg 0)
    (h1 : ar M s0 1 n_s0)
    (h2 : ¬ (s2 = 0) → vp_in s1 n_s0)
    (h3 : ¬ (s2 = 0) → vp_in i1 12)
    (k1 : s2 = 0 → K0 g YX12_readsHall YX12_isWord d 66 [.ref 130, .long (220307)] [(0, .ref 130), (1, .int i1), (2, .long j2)] [.int s1, .ref s0] M P)
    (k2 : ¬ (s2 = 0) → 0 ≤ (mi M1 138 (i1 : Int32).toNatClampNeg) → K0 g YX12_readsHall YX12_nextToken d 122 [.ref 130] [(0, .ref 130), (1, .int i1), (2, .long j2)] [] M1 P)
    (k3 : ¬ (s2 = 0) → ¬ (0 ≤ (mi M1 138 (i1 : Int32).toNatClampNeg)) → K0 g YX12_readsHall YX12_fails d 117 [.ref 130, .int 1] [] [] M1 P) :
    E0 g YX12_readsHall d 52 [(0, .ref 130), (1, .int i1), (2, .long j2)] [.int s2, .int s1, .ref s0] M P := by
  have f1 : ob M 130 12 := L.s rfl (by decide)
  have f2 : mr M 130 16 = some 138 := L.r 133 rfl
  have f3 : ar M 138 1 12 := L.s rfl (by decide)
  subst qM1
  refine x_if_eq 59 dX12_readsHall_52 (by decide) (fun c1 => ?_) (fun c1 => ?_)
  · refine x_aload_n dX12_readsHall_59 0 rfl ?_
    refine x_ldc2 dX12_readsHall_60 kcX12_247 ?_
    refine EX.sub [0, 1, 2] (K0.v (As := [.long (220307)]) (st := [.int s1, .ref s0]) cvX12_194 dX12_readsHall_63 rfl rfl f1 rfl (Nat.le_of_ble_eq_true rfl) (k1 c1)) rfl
  · refine x_iconst (v := 0) dX12_readsHall_55 (by decide) ?_
    refine x_goto 102 dX12_readsHall_56 (by decide) ?_
    refine x_iast dX12_readsHall_102 h1.1 h1.2 (h2 c1) ?_
    refine x_aload_n dX12_readsHall_103 0 rfl ?_
    refine x_getR fdX12_32 rfl dX12_readsHall_104 f1.1 f1.2 f2 ?_
    refine x_iload_n dX12_readsHall_107 1 rfl ?_
    refine x_iald dX12_readsHall_108 f3.1 f3.2 (h3 c1) ?_
    refine x_if_ge 118 dX12_readsHall_109 (by decide) (fun c2 => ?_) (fun c2 => ?_)
    · refine x_aload_n dX12_readsHall_118 0 rfl ?_
      refine EX.sub [0, 1, 2] (K0.v (As := []) (st := []) cvX12_209 dX12_readsHall_119 rfl rfl f1 rfl (Nat.le_of_ble_eq_true rfl) (k2 c1 c2)) rfl
    · refine x_aload_n dX12_readsHall_112 0 rfl ?_
      refine x_iconst (v := 1) dX12_readsHall_113 (by decide) ?_
      refine EX.sub [] (K0.v (As := [.int 1]) (st := []) cvX12_202 dX12_readsHall_114 rfl rfl f1 rfl (Nat.le_of_ble_eq_true rfl) (k3 c1 c2)) rfl
set_option maxRecDepth 8000 in
theorem qX12_readsHall_66 {g : GG} {d : Nat} {M : MM} {P : Option Value → MM → Prop} {i1 : Int32} {j2 : Int64} {s0 : Nat} {s1 : Int32} {s2 : Int32} {n_s0 : Nat} {M1 : MM} {la lb pa pb rl : Nat} (L : Lay M la lb pa pb rl)
    (qM1 : M1 = wi M s0 (s1 : Int32).toNatClampNeg 1)
    (h1 : ar M s0 1 n_s0)
    (h2 : ¬ (s2 = 0) → vp_in s1 n_s0)
    (h3 : ¬ (s2 = 0) → vp_in i1 12)
    (k1 : s2 = 0 → K0 g YX12_readsHall YX12_isWord d 80 [.ref 130, .long (47329743)] [(0, .ref 130), (1, .int i1), (2, .long j2)] [.int s1, .ref s0] M P)
    (k2 : ¬ (s2 = 0) → 0 ≤ (mi M1 138 (i1 : Int32).toNatClampNeg) → K0 g YX12_readsHall YX12_nextToken d 122 [.ref 130] [(0, .ref 130), (1, .int i1), (2, .long j2)] [] M1 P)
    (k3 : ¬ (s2 = 0) → ¬ (0 ≤ (mi M1 138 (i1 : Int32).toNatClampNeg)) → K0 g YX12_readsHall YX12_fails d 117 [.ref 130, .int 1] [] [] M1 P) :
    E0 g YX12_readsHall d 66 [(0, .ref 130), (1, .int i1), (2, .long j2)] [.int s2, .int s1, .ref s0] M P := by
  have f1 : ob M 130 12 := L.s rfl (by decide)
  have f2 : mr M 130 16 = some 138 := L.r 133 rfl
  have f3 : ar M 138 1 12 := L.s rfl (by decide)
  subst qM1
  refine x_if_eq 73 dX12_readsHall_66 (by decide) (fun c1 => ?_) (fun c1 => ?_)
  · refine x_aload_n dX12_readsHall_73 0 rfl ?_
    refine x_ldc2 dX12_readsHall_74 kcX12_249 ?_
    refine EX.sub [0, 1, 2] (K0.v (As := [.long (47329743)]) (st := [.int s1, .ref s0]) cvX12_194 dX12_readsHall_77 rfl rfl f1 rfl (Nat.le_of_ble_eq_true rfl) (k1 c1)) rfl
  · refine x_iconst (v := 1) dX12_readsHall_69 (by decide) ?_
    refine x_goto 102 dX12_readsHall_70 (by decide) ?_
    refine x_iast dX12_readsHall_102 h1.1 h1.2 (h2 c1) ?_
    refine x_aload_n dX12_readsHall_103 0 rfl ?_
    refine x_getR fdX12_32 rfl dX12_readsHall_104 f1.1 f1.2 f2 ?_
    refine x_iload_n dX12_readsHall_107 1 rfl ?_
    refine x_iald dX12_readsHall_108 f3.1 f3.2 (h3 c1) ?_
    refine x_if_ge 118 dX12_readsHall_109 (by decide) (fun c2 => ?_) (fun c2 => ?_)
    · refine x_aload_n dX12_readsHall_118 0 rfl ?_
      refine EX.sub [0, 1, 2] (K0.v (As := []) (st := []) cvX12_209 dX12_readsHall_119 rfl rfl f1 rfl (Nat.le_of_ble_eq_true rfl) (k2 c1 c2)) rfl
    · refine x_aload_n dX12_readsHall_112 0 rfl ?_
      refine x_iconst (v := 1) dX12_readsHall_113 (by decide) ?_
      refine EX.sub [] (K0.v (As := [.int 1]) (st := []) cvX12_202 dX12_readsHall_114 rfl rfl f1 rfl (Nat.le_of_ble_eq_true rfl) (k3 c1 c2)) rfl
set_option maxRecDepth 8000 in
theorem qX12_readsHall_80 {g : GG} {d : Nat} {M : MM} {P : Option Value → MM → Prop} {i1 : Int32} {j2 : Int64} {s0 : Nat} {s1 : Int32} {s2 : Int32} {n_s0 : Nat} {M1 : MM} {la lb pa pb rl : Nat} (L : Lay M la lb pa pb rl)
    (qM1 : M1 = wi M s0 (s1 : Int32).toNatClampNeg 2)
    (h1 : ar M s0 1 n_s0)
    (h2 : ¬ (s2 = 0) → vp_in s1 n_s0)
    (h3 : ¬ (s2 = 0) → vp_in i1 12)
    (k1 : s2 = 0 → K0 g YX12_readsHall YX12_isWord d 94 [.ref 130, .long (7096239)] [(0, .ref 130), (1, .int i1), (2, .long j2)] [.int s1, .ref s0] M P)
    (k2 : ¬ (s2 = 0) → 0 ≤ (mi M1 138 (i1 : Int32).toNatClampNeg) → K0 g YX12_readsHall YX12_nextToken d 122 [.ref 130] [(0, .ref 130), (1, .int i1), (2, .long j2)] [] M1 P)
    (k3 : ¬ (s2 = 0) → ¬ (0 ≤ (mi M1 138 (i1 : Int32).toNatClampNeg)) → K0 g YX12_readsHall YX12_fails d 117 [.ref 130, .int 1] [] [] M1 P) :
    E0 g YX12_readsHall d 80 [(0, .ref 130), (1, .int i1), (2, .long j2)] [.int s2, .int s1, .ref s0] M P := by
  have f1 : ob M 130 12 := L.s rfl (by decide)
  have f2 : mr M 130 16 = some 138 := L.r 133 rfl
  have f3 : ar M 138 1 12 := L.s rfl (by decide)
  subst qM1
  refine x_if_eq 87 dX12_readsHall_80 (by decide) (fun c1 => ?_) (fun c1 => ?_)
  · refine x_aload_n dX12_readsHall_87 0 rfl ?_
    refine x_ldc2 dX12_readsHall_88 kcX12_251 ?_
    refine EX.sub [0, 1, 2] (K0.v (As := [.long (7096239)]) (st := [.int s1, .ref s0]) cvX12_194 dX12_readsHall_91 rfl rfl f1 rfl (Nat.le_of_ble_eq_true rfl) (k1 c1)) rfl
  · refine x_iconst (v := 2) dX12_readsHall_83 (by decide) ?_
    refine x_goto 102 dX12_readsHall_84 (by decide) ?_
    refine x_iast dX12_readsHall_102 h1.1 h1.2 (h2 c1) ?_
    refine x_aload_n dX12_readsHall_103 0 rfl ?_
    refine x_getR fdX12_32 rfl dX12_readsHall_104 f1.1 f1.2 f2 ?_
    refine x_iload_n dX12_readsHall_107 1 rfl ?_
    refine x_iald dX12_readsHall_108 f3.1 f3.2 (h3 c1) ?_
    refine x_if_ge 118 dX12_readsHall_109 (by decide) (fun c2 => ?_) (fun c2 => ?_)
    · refine x_aload_n dX12_readsHall_118 0 rfl ?_
      refine EX.sub [0, 1, 2] (K0.v (As := []) (st := []) cvX12_209 dX12_readsHall_119 rfl rfl f1 rfl (Nat.le_of_ble_eq_true rfl) (k2 c1 c2)) rfl
    · refine x_aload_n dX12_readsHall_112 0 rfl ?_
      refine x_iconst (v := 1) dX12_readsHall_113 (by decide) ?_
      refine EX.sub [] (K0.v (As := [.int 1]) (st := []) cvX12_202 dX12_readsHall_114 rfl rfl f1 rfl (Nat.le_of_ble_eq_true rfl) (k3 c1 c2)) rfl
set_option maxRecDepth 8000 in
theorem qX12_readsHall_94 {g : GG} {d : Nat} {M : MM} {P : Option Value → MM → Prop} {i1 : Int32} {j2 : Int64} {s0 : Nat} {s1 : Int32} {s2 : Int32} {n_s0 : Nat} {M1 : MM} {M2 : MM} {la lb pa pb rl : Nat} (L : Lay M la lb pa pb rl)
    (qM1 : M1 = wi M s0 (s1 : Int32).toNatClampNeg (-1))
    (qM2 : M2 = wi M s0 (s1 : Int32).toNatClampNeg 3)
    (h1 : ar M s0 1 n_s0)
    (h2 : s2 = 0 → vp_in s1 n_s0)
    (h3 : s2 = 0 → vp_in i1 12)
    (h4 : ¬ (s2 = 0) → vp_in s1 n_s0)
    (h5 : ¬ (s2 = 0) → vp_in i1 12)
    (k1 : s2 = 0 → 0 ≤ (mi M1 138 (i1 : Int32).toNatClampNeg) → K0 g YX12_readsHall YX12_nextToken d 122 [.ref 130] [(0, .ref 130), (1, .int i1), (2, .long j2)] [] M1 P)
    (k2 : s2 = 0 → ¬ (0 ≤ (mi M1 138 (i1 : Int32).toNatClampNeg)) → K0 g YX12_readsHall YX12_fails d 117 [.ref 130, .int 1] [] [] M1 P)
    (k3 : ¬ (s2 = 0) → 0 ≤ (mi M2 138 (i1 : Int32).toNatClampNeg) → K0 g YX12_readsHall YX12_nextToken d 122 [.ref 130] [(0, .ref 130), (1, .int i1), (2, .long j2)] [] M2 P)
    (k4 : ¬ (s2 = 0) → ¬ (0 ≤ (mi M2 138 (i1 : Int32).toNatClampNeg)) → K0 g YX12_readsHall YX12_fails d 117 [.ref 130, .int 1] [] [] M2 P) :
    E0 g YX12_readsHall d 94 [(0, .ref 130), (1, .int i1), (2, .long j2)] [.int s2, .int s1, .ref s0] M P := by
  have f1 : ob M 130 12 := L.s rfl (by decide)
  have f2 : mr M 130 16 = some 138 := L.r 133 rfl
  have f3 : ar M 138 1 12 := L.s rfl (by decide)
  subst qM1 qM2
  refine x_if_eq 101 dX12_readsHall_94 (by decide) (fun c1 => ?_) (fun c1 => ?_)
  · refine x_iconst (v := (-1)) dX12_readsHall_101 (by decide) ?_
    refine x_iast dX12_readsHall_102 h1.1 h1.2 (h2 c1) ?_
    refine x_aload_n dX12_readsHall_103 0 rfl ?_
    refine x_getR fdX12_32 rfl dX12_readsHall_104 f1.1 f1.2 f2 ?_
    refine x_iload_n dX12_readsHall_107 1 rfl ?_
    refine x_iald dX12_readsHall_108 f3.1 f3.2 (h3 c1) ?_
    refine x_if_ge 118 dX12_readsHall_109 (by decide) (fun c2 => ?_) (fun c2 => ?_)
    · refine x_aload_n dX12_readsHall_118 0 rfl ?_
      refine EX.sub [0, 1, 2] (K0.v (As := []) (st := []) cvX12_209 dX12_readsHall_119 rfl rfl f1 rfl (Nat.le_of_ble_eq_true rfl) (k1 c1 c2)) rfl
    · refine x_aload_n dX12_readsHall_112 0 rfl ?_
      refine x_iconst (v := 1) dX12_readsHall_113 (by decide) ?_
      refine EX.sub [] (K0.v (As := [.int 1]) (st := []) cvX12_202 dX12_readsHall_114 rfl rfl f1 rfl (Nat.le_of_ble_eq_true rfl) (k2 c1 c2)) rfl
  · refine x_iconst (v := 3) dX12_readsHall_97 (by decide) ?_
    refine x_goto 102 dX12_readsHall_98 (by decide) ?_
    refine x_iast dX12_readsHall_102 h1.1 h1.2 (h4 c1) ?_
    refine x_aload_n dX12_readsHall_103 0 rfl ?_
    refine x_getR fdX12_32 rfl dX12_readsHall_104 f1.1 f1.2 f2 ?_
    refine x_iload_n dX12_readsHall_107 1 rfl ?_
    refine x_iald dX12_readsHall_108 f3.1 f3.2 (h5 c1) ?_
    refine x_if_ge 118 dX12_readsHall_109 (by decide) (fun c2 => ?_) (fun c2 => ?_)
    · refine x_aload_n dX12_readsHall_118 0 rfl ?_
      refine EX.sub [0, 1, 2] (K0.v (As := []) (st := []) cvX12_209 dX12_readsHall_119 rfl rfl f1 rfl (Nat.le_of_ble_eq_true rfl) (k3 c1 c2)) rfl
    · refine x_aload_n dX12_readsHall_112 0 rfl ?_
      refine x_iconst (v := 1) dX12_readsHall_113 (by decide) ?_
      refine EX.sub [] (K0.v (As := [.int 1]) (st := []) cvX12_202 dX12_readsHall_114 rfl rfl f1 rfl (Nat.le_of_ble_eq_true rfl) (k4 c1 c2)) rfl
set_option maxRecDepth 8000 in
theorem qX12_readsHall_117 {g : GG} {d : Nat} {M : MM} {P : Option Value → MM → Prop} {s0 : Int32}
    (h1 : s0 &&& 1 = s0)
    (k1 : P (some (.int s0)) M) :
    E0 g YX12_readsHall d 117 [] [.int s0] M P := by
  exact x_zret rfl dX12_readsHall_117 (h1) (Nat.le_refl _) (Nat.le_refl _) (k1)
set_option maxRecDepth 8000 in
theorem qX12_readsHall_122 {g : GG} {d : Nat} {M : MM} {P : Option Value → MM → Prop} {i1 : Int32} {j2 : Int64} {la lb pa pb rl : Nat} (L : Lay M la lb pa pb rl)
    (k1 : K0 g YX12_readsHall YX12_needsWord d 129 [.ref 130, .long (4285945)] [(0, .ref 130), (1, .int i1), (2, .long j2)] [] M P) :
    E0 g YX12_readsHall d 122 [(0, .ref 130), (1, .int i1), (2, .long j2)] [] M P := by
  have f1 : ob M 130 12 := L.s rfl (by decide)
  refine x_aload_n dX12_readsHall_122 0 rfl ?_
  refine x_ldc2 dX12_readsHall_123 kcX12_235 ?_
  refine EX.sub [0, 1, 2] (K0.v (As := [.long (4285945)]) (st := []) cvX12_275 dX12_readsHall_126 rfl rfl f1 rfl (Nat.le_of_ble_eq_true rfl) (k1)) rfl
set_option maxRecDepth 8000 in
theorem qX12_readsHall_129 {g : GG} {d : Nat} {M : MM} {P : Option Value → MM → Prop} {i1 : Int32} {j2 : Int64} {s0 : Int32} {M1 : MM} {la lb pa pb rl : Nat} (L : Lay M la lb pa pb rl)
    (qM1 : M1 = wi M 139 (i1 : Int32).toNatClampNeg (mi M 130 20))
    (h1 : ¬ s0 = 0 → vp_in i1 12)
    (k1 : ¬ s0 = 0 → K0 g YX12_readsHall YX12_reads d 148 [.ref 130] [(0, .ref 130), (1, .int i1), (2, .long j2)] [] M1 P)
    (k2 : s0 = 0 → P (some (.int 0)) M) :
    E0 g YX12_readsHall d 129 [(0, .ref 130), (1, .int i1), (2, .long j2)] [.int s0] M P := by
  have f1 : ob M 130 12 := L.s rfl (by decide)
  have f2 : mr M 130 17 = some 139 := L.r 134 rfl
  have f3 : ar M 139 1 12 := L.s rfl (by decide)
  subst qM1
  refine x_if_ne 134 dX12_readsHall_129 (by decide) (fun c1 => ?_) (fun c1 => ?_)
  · refine x_aload_n dX12_readsHall_134 0 rfl ?_
    refine x_getR fdX12_35 rfl dX12_readsHall_135 f1.1 f1.2 f2 ?_
    refine x_iload_n dX12_readsHall_138 1 rfl ?_
    refine x_aload_n dX12_readsHall_139 0 rfl ?_
    refine x_getI fdX12_177 rfl dX12_readsHall_140 f1.1 f1.2 ?_
    refine x_iast dX12_readsHall_143 f3.1 f3.2 (h1 c1) ?_
    refine x_aload_n dX12_readsHall_144 0 rfl ?_
    refine EX.sub [0, 1, 2] (K0.v (As := []) (st := []) cvX12_288 dX12_readsHall_145 rfl rfl f1 rfl (Nat.le_of_ble_eq_true rfl) (k1 c1)) rfl
  · refine x_iconst (v := 0) dX12_readsHall_132 (by decide) ?_
    exact x_zret rfl dX12_readsHall_133 rfl (Nat.le_refl _) (Nat.le_refl _) (k2 c1)
set_option maxRecDepth 8000 in
theorem qX12_readsHall_148 {g : GG} {d : Nat} {M : MM} {P : Option Value → MM → Prop} {i1 : Int32} {j2 : Int64} {s0 : Int32} {M1 : MM} {M2 : MM} {M3 : MM} {la lb pa pb rl : Nat} (L : Lay M la lb pa pb rl)
    (qM1 : M1 = wi M 140 (i1 : Int32).toNatClampNeg (mi M 130 20))
    (qM2 : M2 = wj M1 134 (i1 : Int32).toNatClampNeg j2)
    (qM3 : M3 = wi M2 132 3 ((mi M1 132 3) + 1))
    (h1 : ¬ s0 = 0 → vp_in i1 12)
    (h2 : ¬ s0 = 0 → vp_in i1 12)
    (k1 : ¬ s0 = 0 → P (some (.int 1)) M3)
    (k2 : s0 = 0 → P (some (.int 0)) M) :
    E0 g YX12_readsHall d 148 [(0, .ref 130), (1, .int i1), (2, .long j2)] [.int s0] M P := by
  have f1 : ob M 130 12 := L.s rfl (by decide)
  have f2 : mr M 130 18 = some 140 := L.r 135 rfl
  have f3 : ar M 140 1 12 := L.s rfl (by decide)
  have f4 : mr M 130 12 = some 134 := L.r 129 rfl
  have f5 : ar M 134 2 12 := L.s rfl (by decide)
  have f6 : mr M 130 10 = some 132 := L.r 127 rfl
  have f7 : ar M 132 1 4 := L.s rfl (by decide)
  subst qM1 qM2 qM3
  refine x_if_ne 153 dX12_readsHall_148 (by decide) (fun c1 => ?_) (fun c1 => ?_)
  · refine x_aload_n dX12_readsHall_153 0 rfl ?_
    refine x_getR fdX12_38 rfl dX12_readsHall_154 f1.1 f1.2 f2 ?_
    refine x_iload_n dX12_readsHall_157 1 rfl ?_
    refine x_aload_n dX12_readsHall_158 0 rfl ?_
    refine x_getI fdX12_177 rfl dX12_readsHall_159 f1.1 f1.2 ?_
    refine x_iast dX12_readsHall_162 f3.1 f3.2 (h1 c1) ?_
    refine x_aload_n dX12_readsHall_163 0 rfl ?_
    refine x_getR fdX12_20 rfl dX12_readsHall_164 f1.1 f1.2 f4 ?_
    refine x_iload_n dX12_readsHall_167 1 rfl ?_
    refine x_lload_n dX12_readsHall_168 2 rfl ?_
    refine x_last dX12_readsHall_169 f5.1 f5.2 (h2 c1) ?_
    refine x_aload_n dX12_readsHall_170 0 rfl ?_
    refine x_getR fdX12_13 rfl dX12_readsHall_171 f1.1 f1.2 f6 ?_
    refine x_iconst (v := 3) dX12_readsHall_174 (by decide) ?_
    refine x_dup2 dX12_readsHall_175 rfl rfl ?_
    refine x_iald dX12_readsHall_176 f7.1 f7.2 (by unfold vp_in; decide) ?_
    refine x_iconst (v := 1) dX12_readsHall_177 (by decide) ?_
    refine x_iadd dX12_readsHall_178 ?_
    refine x_iast dX12_readsHall_179 f7.1 f7.2 (by unfold vp_in; decide) ?_
    refine x_iconst (v := 1) dX12_readsHall_180 (by decide) ?_
    exact x_zret rfl dX12_readsHall_181 rfl (Nat.le_refl _) (Nat.le_refl _) (k1 c1)
  · refine x_iconst (v := 0) dX12_readsHall_151 (by decide) ?_
    exact x_zret rfl dX12_readsHall_152 rfl (Nat.le_refl _) (Nat.le_refl _) (k2 c1)
set_option maxRecDepth 8000 in
theorem qX12_begins_0 {g : GG} {d : Nat} {M : MM} {P : Option Value → MM → Prop}  {M1 : MM} {M2 : MM} {M3 : MM} {la lb pa pb rl : Nat} (L : Lay M la lb pa pb rl)
    (qM1 : M1 = wi M 130 3 (mi M 130 1))
    (qM2 : M2 = wi M1 130 1 0)
    (qM3 : M3 = wi M2 130 4 0)
    (k1 : K0 g YX12_begins YX12_nextToken d 22 [.ref 130] [] [] M3 P) :
    E0 g YX12_begins d 0 [(0, .ref 130)] [] M P := by
  have f1 : ob M 130 12 := L.s rfl (by decide)
  subst qM1 qM2 qM3
  refine x_aload_n dX12_begins_0 0 rfl ?_
  refine x_aload_n dX12_begins_1 0 rfl ?_
  refine x_getI fdX12_144 rfl dX12_begins_2 f1.1 f1.2 ?_
  refine x_putI fdX12_147 rfl (Or.inl rfl) dX12_begins_5 f1.1 f1.2 rfl rfl ?_
  refine x_aload_n dX12_begins_8 0 rfl ?_
  refine x_iconst (v := 0) dX12_begins_9 (by decide) ?_
  refine x_putI fdX12_144 rfl (Or.inl rfl) dX12_begins_10 f1.1 f1.2 rfl rfl ?_
  refine x_aload_n dX12_begins_13 0 rfl ?_
  refine x_iconst (v := 0) dX12_begins_14 (by decide) ?_
  refine x_putI fdX12_150 rfl (Or.inl rfl) dX12_begins_15 f1.1 f1.2 rfl rfl ?_
  refine x_aload_n dX12_begins_18 0 rfl ?_
  refine EX.sub [] (K0.v (As := []) (st := []) cvX12_209 dX12_begins_19 rfl rfl f1 rfl (Nat.le_of_ble_eq_true rfl) (k1)) rfl
set_option maxRecDepth 8000 in
theorem qX12_begins_22 {g : GG} {d : Nat} {M : MM} {P : Option Value → MM → Prop} 
    (k1 : P none M) :
    E0 g YX12_begins d 22 [] [] M P := by
  exact x_vret rfl dX12_begins_22 (Nat.le_refl _) (Nat.le_refl _) (k1)
set_option maxRecDepth 8000 in
theorem qX12_readsAll_0 {g : GG} {d : Nat} {M : MM} {P : Option Value → MM → Prop}  {M1 : MM} {M2 : MM} {M3 : MM} {la lb pa pb rl : Nat} (L : Lay M la lb pa pb rl)
    (qM1 : M1 = wi M 132 2 0)
    (qM2 : M2 = wi M1 132 3 0)
    (qM3 : M3 = wi M2 130 20 1000)
    (k1 : K0 g YX12_readsAll YX12_begins d 25 [.ref 130] [(0, .ref 130)] [] M3 P) :
    E0 g YX12_readsAll d 0 [(0, .ref 130)] [] M P := by
  have f1 : ob M 130 12 := L.s rfl (by decide)
  have f2 : mr M 130 10 = some 132 := L.r 127 rfl
  have f3 : ar M 132 1 4 := L.s rfl (by decide)
  subst qM1 qM2 qM3
  refine x_aload_n dX12_readsAll_0 0 rfl ?_
  refine x_getR fdX12_13 rfl dX12_readsAll_1 f1.1 f1.2 f2 ?_
  refine x_iconst (v := 2) dX12_readsAll_4 (by decide) ?_
  refine x_iconst (v := 0) dX12_readsAll_5 (by decide) ?_
  refine x_iast dX12_readsAll_6 f3.1 f3.2 (by unfold vp_in; decide) ?_
  refine x_aload_n dX12_readsAll_7 0 rfl ?_
  refine x_getR fdX12_13 rfl dX12_readsAll_8 f1.1 f1.2 f2 ?_
  refine x_iconst (v := 3) dX12_readsAll_11 (by decide) ?_
  refine x_iconst (v := 0) dX12_readsAll_12 (by decide) ?_
  refine x_iast dX12_readsAll_13 f3.1 f3.2 (by unfold vp_in; decide) ?_
  refine x_aload_n dX12_readsAll_14 0 rfl ?_
  refine x_sipush (v := 1000) dX12_readsAll_15 (by decide) ?_
  refine x_putI fdX12_177 rfl (Or.inl rfl) dX12_readsAll_18 f1.1 f1.2 rfl rfl ?_
  refine x_aload_n dX12_readsAll_21 0 rfl ?_
  refine EX.sub [0] (K0.v (As := []) (st := []) cvX12_291 dX12_readsAll_22 rfl rfl f1 rfl (Nat.le_of_ble_eq_true rfl) (k1)) rfl
set_option maxRecDepth 8000 in
theorem qX12_readsAll_25 {g : GG} {d : Nat} {M : MM} {P : Option Value → MM → Prop}  {la lb pa pb rl : Nat} (L : Lay M la lb pa pb rl)
    (k1 : (mi M 130 6) = 0 → P (some (.int 1)) M)
    (k2 : ¬ ((mi M 130 6) = 0) → K0 g YX12_readsAll YX12_isWord d 39 [.ref 130, .long (380234)] [(0, .ref 130)] [] M P) :
    E0 g YX12_readsAll d 25 [(0, .ref 130)] [] M P := by
  have f1 : ob M 130 12 := L.s rfl (by decide)
  refine x_aload_n dX12_readsAll_25 0 rfl ?_
  refine x_getI fdX12_163 rfl dX12_readsAll_26 f1.1 f1.2 ?_
  refine x_if_eq 98 dX12_readsAll_29 (by decide) (fun c1 => ?_) (fun c1 => ?_)
  · refine x_iconst (v := 1) dX12_readsAll_98 (by decide) ?_
    exact x_zret rfl dX12_readsAll_99 rfl (Nat.le_refl _) (Nat.le_refl _) (k1 c1)
  · refine x_aload_n dX12_readsAll_32 0 rfl ?_
    refine x_ldc2 dX12_readsAll_33 kcX12_225 ?_
    refine EX.sub [0] (K0.v (As := [.long (380234)]) (st := []) cvX12_194 dX12_readsAll_36 rfl rfl f1 rfl (Nat.le_of_ble_eq_true rfl) (k2 c1)) rfl
set_option maxRecDepth 8000 in
theorem qX12_readsAll_39 {g : GG} {d : Nat} {M : MM} {P : Option Value → MM → Prop} {s0 : Int32} {la lb pa pb rl : Nat} (L : Lay M la lb pa pb rl)
    (k1 : s0 = 0 → K0 g YX12_readsAll YX12_isWord d 56 [.ref 130, .long (7542361)] [(0, .ref 130)] [] M P)
    (k2 : ¬ (s0 = 0) → K0 g YX12_readsAll YX12_readsShot d 46 [.ref 130] [(0, .ref 130)] [] M P) :
    E0 g YX12_readsAll d 39 [(0, .ref 130)] [.int s0] M P := by
  have f1 : ob M 130 12 := L.s rfl (by decide)
  refine x_if_eq 49 dX12_readsAll_39 (by decide) (fun c1 => ?_) (fun c1 => ?_)
  · refine x_aload_n dX12_readsAll_49 0 rfl ?_
    refine x_ldc2 dX12_readsAll_50 kcX12_231 ?_
    refine EX.sub [0] (K0.v (As := [.long (7542361)]) (st := []) cvX12_194 dX12_readsAll_53 rfl rfl f1 rfl (Nat.le_of_ble_eq_true rfl) (k1 c1)) rfl
  · refine x_aload_n dX12_readsAll_42 0 rfl ?_
    refine EX.sub [0] (K0.v (As := []) (st := []) cvX12_294 dX12_readsAll_43 rfl rfl f1 rfl (Nat.le_of_ble_eq_true rfl) (k2 c1)) rfl
set_option maxRecDepth 8000 in
theorem qX12_readsAll_46 {g : GG} {d : Nat} {M : MM} {P : Option Value → MM → Prop} {s0 : Int32}
    (k1 : E0 g YX12_readsAll d 88 [(0, .ref 130)] [.int s0] M P) :
    E0 g YX12_readsAll d 46 [(0, .ref 130)] [.int s0] M P := by
  refine x_goto 88 dX12_readsAll_46 (by decide) ?_
  exact EX.sub [0] k1 rfl
set_option maxRecDepth 8000 in
theorem qX12_readsAll_56 {g : GG} {d : Nat} {M : MM} {P : Option Value → MM → Prop} {s0 : Int32} {la lb pa pb rl : Nat} (L : Lay M la lb pa pb rl)
    (k1 : s0 = 0 → K0 g YX12_readsAll YX12_isWord d 73 [.ref 130, .long (158529)] [(0, .ref 130)] [] M P)
    (k2 : ¬ (s0 = 0) → K0 g YX12_readsAll YX12_readsNeeds d 63 [.ref 130] [(0, .ref 130)] [] M P) :
    E0 g YX12_readsAll d 56 [(0, .ref 130)] [.int s0] M P := by
  have f1 : ob M 130 12 := L.s rfl (by decide)
  refine x_if_eq 66 dX12_readsAll_56 (by decide) (fun c1 => ?_) (fun c1 => ?_)
  · refine x_aload_n dX12_readsAll_66 0 rfl ?_
    refine x_ldc2 dX12_readsAll_67 kcX12_233 ?_
    refine EX.sub [0] (K0.v (As := [.long (158529)]) (st := []) cvX12_194 dX12_readsAll_70 rfl rfl f1 rfl (Nat.le_of_ble_eq_true rfl) (k1 c1)) rfl
  · refine x_aload_n dX12_readsAll_59 0 rfl ?_
    refine EX.sub [0] (K0.v (As := []) (st := []) cvX12_297 dX12_readsAll_60 rfl rfl f1 rfl (Nat.le_of_ble_eq_true rfl) (k2 c1)) rfl
set_option maxRecDepth 8000 in
theorem qX12_readsAll_63 {g : GG} {d : Nat} {M : MM} {P : Option Value → MM → Prop} {s0 : Int32}
    (k1 : E0 g YX12_readsAll d 88 [(0, .ref 130)] [.int s0] M P) :
    E0 g YX12_readsAll d 63 [(0, .ref 130)] [.int s0] M P := by
  refine x_goto 88 dX12_readsAll_63 (by decide) ?_
  exact EX.sub [0] k1 rfl
set_option maxRecDepth 8000 in
theorem qX12_readsAll_73 {g : GG} {d : Nat} {M : MM} {P : Option Value → MM → Prop} {s0 : Int32} {la lb pa pb rl : Nat} (L : Lay M la lb pa pb rl)
    (k1 : s0 = 0 → K0 g YX12_readsAll YX12_fails d 88 [.ref 130, .int 1] [(0, .ref 130)] [] M P)
    (k2 : ¬ (s0 = 0) → K0 g YX12_readsAll YX12_readsHall d 80 [.ref 130] [(0, .ref 130)] [] M P) :
    E0 g YX12_readsAll d 73 [(0, .ref 130)] [.int s0] M P := by
  have f1 : ob M 130 12 := L.s rfl (by decide)
  refine x_if_eq 83 dX12_readsAll_73 (by decide) (fun c1 => ?_) (fun c1 => ?_)
  · refine x_aload_n dX12_readsAll_83 0 rfl ?_
    refine x_iconst (v := 1) dX12_readsAll_84 (by decide) ?_
    refine EX.sub [0] (K0.v (As := [.int 1]) (st := []) cvX12_202 dX12_readsAll_85 rfl rfl f1 rfl (Nat.le_of_ble_eq_true rfl) (k1 c1)) rfl
  · refine x_aload_n dX12_readsAll_76 0 rfl ?_
    refine EX.sub [0] (K0.v (As := []) (st := []) cvX12_300 dX12_readsAll_77 rfl rfl f1 rfl (Nat.le_of_ble_eq_true rfl) (k2 c1)) rfl
set_option maxRecDepth 8000 in
theorem qX12_readsAll_80 {g : GG} {d : Nat} {M : MM} {P : Option Value → MM → Prop} {s0 : Int32}
    (k1 : E0 g YX12_readsAll d 88 [(0, .ref 130)] [.int s0] M P) :
    E0 g YX12_readsAll d 80 [(0, .ref 130)] [.int s0] M P := by
  refine x_goto 88 dX12_readsAll_80 (by decide) ?_
  exact EX.sub [0] k1 rfl
set_option maxRecDepth 8000 in
theorem qX12_readsAll_88 {g : GG} {d : Nat} {M : MM} {P : Option Value → MM → Prop} {s0 : Int32}
    (k1 : ¬ s0 = 0 → E0 g YX12_readsAll d 25 [(0, .ref 130)] [] M P)
    (k2 : s0 = 0 → P (some (.int 0)) M) :
    E0 g YX12_readsAll d 88 [(0, .ref 130)] [.int s0] M P := by
  refine x_istore_n (lv1 := [(1, .int s0), (0, .ref 130)]) dX12_readsAll_88 (by decide) rfl ?_
  refine x_iload_n dX12_readsAll_89 0 rfl ?_
  refine x_if_ne 95 dX12_readsAll_90 (by decide) (fun c1 => ?_) (fun c1 => ?_)
  · refine x_goto 25 dX12_readsAll_95 (by decide) ?_
    exact EX.sub [1] (k1 c1) rfl
  · refine x_iconst (v := 0) dX12_readsAll_93 (by decide) ?_
    exact x_zret rfl dX12_readsAll_94 rfl (Nat.le_refl _) (Nat.le_refl _) (k2 c1)
set_option maxRecDepth 8000 in
theorem qX12_shifts_0 {g : GG} {d : Nat} {M : MM} {P : Option Value → MM → Prop} {a0 : Nat} {i1 : Int32}
    (k1 : E0 g YX12_shifts d 2 [(0, .ref a0), (1, .int i1), (2, .int 0)] [] M P) :
    E0 g YX12_shifts d 0 [(0, .ref a0), (1, .int i1)] [] M P := by
  refine x_iconst (v := 0) dX12_shifts_0 (by decide) ?_
  refine x_istore_n (lv1 := [(2, .int 0), (0, .ref a0), (1, .int i1)]) dX12_shifts_1 (by decide) rfl ?_
  exact EX.sub [1, 2, 0] k1 rfl
set_option maxRecDepth 8000 in
theorem qX12_shifts_2 {g : GG} {d : Nat} {M : MM} {P : Option Value → MM → Prop} {a0 : Nat} {i1 : Int32} {i2 : Int32} {n_a0 : Nat} {M1 : MM}
    (qM1 : M1 = wi M a0 (i2 : Int32).toNatClampNeg (mi M a0 ((i1 + i2) : Int32).toNatClampNeg))
    (h1 : ar M a0 1 n_a0)
    (h2 : ¬ (i1 ≤ i2) → vp_in (i1 + i2) n_a0)
    (h3 : ¬ (i1 ≤ i2) → vp_in i2 n_a0)
    (k1 : i1 ≤ i2 → P none M)
    (k2 : ¬ (i1 ≤ i2) → E0 g YX12_shifts d 2 [(0, .ref a0), (1, .int i1), (2, .int (i2 + 1))] [] M1 P) :
    E0 g YX12_shifts d 2 [(0, .ref a0), (1, .int i1), (2, .int i2)] [] M P := by
  subst qM1
  refine x_iload_n dX12_shifts_2 2 rfl ?_
  refine x_iload_n dX12_shifts_3 1 rfl ?_
  refine x_ic_ge 21 dX12_shifts_4 (by decide) (fun c1 => ?_) (fun c1 => ?_)
  · exact x_vret rfl dX12_shifts_21 (Nat.le_refl _) (Nat.le_refl _) (k1 c1)
  · refine x_aload_n dX12_shifts_7 0 rfl ?_
    refine x_iload_n dX12_shifts_8 2 rfl ?_
    refine x_aload_n dX12_shifts_9 0 rfl ?_
    refine x_iload_n dX12_shifts_10 1 rfl ?_
    refine x_iload_n dX12_shifts_11 2 rfl ?_
    refine x_iadd dX12_shifts_12 ?_
    refine x_iald dX12_shifts_13 h1.1 h1.2 (h2 c1) ?_
    refine x_iast dX12_shifts_14 h1.1 h1.2 (h3 c1) ?_
    refine x_iinc (v := (i2 + 1)) (lv1 := [(2, .int (i2 + 1)), (0, .ref a0), (1, .int i1)]) dX12_shifts_15 2 rfl rfl (by decide) rfl ?_
    refine x_goto 2 dX12_shifts_18 (by decide) ?_
    exact EX.sub [1, 2, 0] (k2 c1) rfl
set_option maxRecDepth 8000 in
theorem qX12_shiftsNames_0 {g : GG} {d : Nat} {M : MM} {P : Option Value → MM → Prop} {a0 : Nat} {i1 : Int32}
    (k1 : E0 g YX12_shiftsNames d 2 [(0, .ref a0), (1, .int i1), (2, .int 0)] [] M P) :
    E0 g YX12_shiftsNames d 0 [(0, .ref a0), (1, .int i1)] [] M P := by
  refine x_iconst (v := 0) dX12_shiftsNames_0 (by decide) ?_
  refine x_istore_n (lv1 := [(2, .int 0), (0, .ref a0), (1, .int i1)]) dX12_shiftsNames_1 (by decide) rfl ?_
  exact EX.sub [1, 2, 0] k1 rfl
set_option maxRecDepth 8000 in
theorem qX12_shiftsNames_2 {g : GG} {d : Nat} {M : MM} {P : Option Value → MM → Prop} {a0 : Nat} {i1 : Int32} {i2 : Int32} {n_a0 : Nat} {M1 : MM}
    (qM1 : M1 = wj M a0 (i2 : Int32).toNatClampNeg (mj M a0 ((i1 + i2) : Int32).toNatClampNeg))
    (h1 : ar M a0 2 n_a0)
    (h2 : ¬ (i1 ≤ i2) → vp_in (i1 + i2) n_a0)
    (h3 : ¬ (i1 ≤ i2) → vp_in i2 n_a0)
    (k1 : i1 ≤ i2 → P none M)
    (k2 : ¬ (i1 ≤ i2) → E0 g YX12_shiftsNames d 2 [(0, .ref a0), (1, .int i1), (2, .int (i2 + 1))] [] M1 P) :
    E0 g YX12_shiftsNames d 2 [(0, .ref a0), (1, .int i1), (2, .int i2)] [] M P := by
  subst qM1
  refine x_iload_n dX12_shiftsNames_2 2 rfl ?_
  refine x_iload_n dX12_shiftsNames_3 1 rfl ?_
  refine x_ic_ge 21 dX12_shiftsNames_4 (by decide) (fun c1 => ?_) (fun c1 => ?_)
  · exact x_vret rfl dX12_shiftsNames_21 (Nat.le_refl _) (Nat.le_refl _) (k1 c1)
  · refine x_aload_n dX12_shiftsNames_7 0 rfl ?_
    refine x_iload_n dX12_shiftsNames_8 2 rfl ?_
    refine x_aload_n dX12_shiftsNames_9 0 rfl ?_
    refine x_iload_n dX12_shiftsNames_10 1 rfl ?_
    refine x_iload_n dX12_shiftsNames_11 2 rfl ?_
    refine x_iadd dX12_shiftsNames_12 ?_
    refine x_lald dX12_shiftsNames_13 h1.1 h1.2 (h2 c1) ?_
    refine x_last dX12_shiftsNames_14 h1.1 h1.2 (h3 c1) ?_
    refine x_iinc (v := (i2 + 1)) (lv1 := [(2, .int (i2 + 1)), (0, .ref a0), (1, .int i1)]) dX12_shiftsNames_15 2 rfl rfl (by decide) rfl ?_
    refine x_goto 2 dX12_shiftsNames_18 (by decide) ?_
    exact EX.sub [1, 2, 0] (k2 c1) rfl
set_option maxRecDepth 8000 in
theorem qX12_lays_0 {g : GG} {d : Nat} {M : MM} {P : Option Value → MM → Prop}  {la lb pa pb rl : Nat} (L : Lay M la lb pa pb rl)
    (k1 : K0 g YX12_lays YX12_shifts d 8 [.ref 132, .int 2] [(0, .ref 130)] [] M P) :
    E0 g YX12_lays d 0 [(0, .ref 130)] [] M P := by
  have f1 : ob M 130 12 := L.s rfl (by decide)
  have f2 : mr M 130 10 = some 132 := L.r 127 rfl
  refine x_aload_n dX12_lays_0 0 rfl ?_
  refine x_getR fdX12_13 rfl dX12_lays_1 f1.1 f1.2 f2 ?_
  refine x_iconst (v := 2) dX12_lays_4 (by decide) ?_
  refine EX.sub [0] (K0.s (As := [.ref 132, .int 2]) (st := []) csX12_303 dX12_lays_5 rfl rfl (Nat.le_of_ble_eq_true rfl) (k1)) rfl
set_option maxRecDepth 8000 in
theorem qX12_lays_8 {g : GG} {d : Nat} {M : MM} {P : Option Value → MM → Prop}  {la lb pa pb rl : Nat} (L : Lay M la lb pa pb rl)
    (k1 : K0 g YX12_lays YX12_shiftsNames d 17 [.ref 133, .int 10] [(0, .ref 130)] [] M P) :
    E0 g YX12_lays d 8 [(0, .ref 130)] [] M P := by
  have f1 : ob M 130 12 := L.s rfl (by decide)
  have f2 : mr M 130 11 = some 133 := L.r 128 rfl
  refine x_aload_n dX12_lays_8 0 rfl ?_
  refine x_getR fdX12_16 rfl dX12_lays_9 f1.1 f1.2 f2 ?_
  refine x_bipush (v := 10) dX12_lays_12 (by decide) ?_
  refine EX.sub [0] (K0.s (As := [.ref 133, .int 10]) (st := []) csX12_307 dX12_lays_14 rfl rfl (Nat.le_of_ble_eq_true rfl) (k1)) rfl
set_option maxRecDepth 8000 in
theorem qX12_lays_17 {g : GG} {d : Nat} {M : MM} {P : Option Value → MM → Prop}  {la lb pa pb rl : Nat} (L : Lay M la lb pa pb rl)
    (k1 : K0 g YX12_lays YX12_shiftsNames d 26 [.ref 134, .int 6] [(0, .ref 130)] [] M P) :
    E0 g YX12_lays d 17 [(0, .ref 130)] [] M P := by
  have f1 : ob M 130 12 := L.s rfl (by decide)
  have f2 : mr M 130 12 = some 134 := L.r 129 rfl
  refine x_aload_n dX12_lays_17 0 rfl ?_
  refine x_getR fdX12_20 rfl dX12_lays_18 f1.1 f1.2 f2 ?_
  refine x_bipush (v := 6) dX12_lays_21 (by decide) ?_
  refine EX.sub [0] (K0.s (As := [.ref 134, .int 6]) (st := []) csX12_307 dX12_lays_23 rfl rfl (Nat.le_of_ble_eq_true rfl) (k1)) rfl
set_option maxRecDepth 8000 in
theorem qX12_lays_26 {g : GG} {d : Nat} {M : MM} {P : Option Value → MM → Prop}  {la lb pa pb rl : Nat} (L : Lay M la lb pa pb rl)
    (k1 : K0 g YX12_lays YX12_shifts d 35 [.ref 135, .int 10] [(0, .ref 130)] [] M P) :
    E0 g YX12_lays d 26 [(0, .ref 130)] [] M P := by
  have f1 : ob M 130 12 := L.s rfl (by decide)
  have f2 : mr M 130 13 = some 135 := L.r 130 rfl
  refine x_aload_n dX12_lays_26 0 rfl ?_
  refine x_getR fdX12_23 rfl dX12_lays_27 f1.1 f1.2 f2 ?_
  refine x_bipush (v := 10) dX12_lays_30 (by decide) ?_
  refine EX.sub [0] (K0.s (As := [.ref 135, .int 10]) (st := []) csX12_303 dX12_lays_32 rfl rfl (Nat.le_of_ble_eq_true rfl) (k1)) rfl
set_option maxRecDepth 8000 in
theorem qX12_lays_35 {g : GG} {d : Nat} {M : MM} {P : Option Value → MM → Prop}  {la lb pa pb rl : Nat} (L : Lay M la lb pa pb rl)
    (k1 : K0 g YX12_lays YX12_shifts d 44 [.ref 136, .int 10] [(0, .ref 130)] [] M P) :
    E0 g YX12_lays d 35 [(0, .ref 130)] [] M P := by
  have f1 : ob M 130 12 := L.s rfl (by decide)
  have f2 : mr M 130 14 = some 136 := L.r 131 rfl
  refine x_aload_n dX12_lays_35 0 rfl ?_
  refine x_getR fdX12_26 rfl dX12_lays_36 f1.1 f1.2 f2 ?_
  refine x_bipush (v := 10) dX12_lays_39 (by decide) ?_
  refine EX.sub [0] (K0.s (As := [.ref 136, .int 10]) (st := []) csX12_303 dX12_lays_41 rfl rfl (Nat.le_of_ble_eq_true rfl) (k1)) rfl
set_option maxRecDepth 8000 in
theorem qX12_lays_44 {g : GG} {d : Nat} {M : MM} {P : Option Value → MM → Prop}  {la lb pa pb rl : Nat} (L : Lay M la lb pa pb rl)
    (k1 : K0 g YX12_lays YX12_shifts d 53 [.ref 137, .int 10] [(0, .ref 130)] [] M P) :
    E0 g YX12_lays d 44 [(0, .ref 130)] [] M P := by
  have f1 : ob M 130 12 := L.s rfl (by decide)
  have f2 : mr M 130 15 = some 137 := L.r 132 rfl
  refine x_aload_n dX12_lays_44 0 rfl ?_
  refine x_getR fdX12_29 rfl dX12_lays_45 f1.1 f1.2 f2 ?_
  refine x_bipush (v := 10) dX12_lays_48 (by decide) ?_
  refine EX.sub [0] (K0.s (As := [.ref 137, .int 10]) (st := []) csX12_303 dX12_lays_50 rfl rfl (Nat.le_of_ble_eq_true rfl) (k1)) rfl
set_option maxRecDepth 8000 in
theorem qX12_lays_53 {g : GG} {d : Nat} {M : MM} {P : Option Value → MM → Prop}  {la lb pa pb rl : Nat} (L : Lay M la lb pa pb rl)
    (k1 : K0 g YX12_lays YX12_shifts d 62 [.ref 138, .int 6] [(0, .ref 130)] [] M P) :
    E0 g YX12_lays d 53 [(0, .ref 130)] [] M P := by
  have f1 : ob M 130 12 := L.s rfl (by decide)
  have f2 : mr M 130 16 = some 138 := L.r 133 rfl
  refine x_aload_n dX12_lays_53 0 rfl ?_
  refine x_getR fdX12_32 rfl dX12_lays_54 f1.1 f1.2 f2 ?_
  refine x_bipush (v := 6) dX12_lays_57 (by decide) ?_
  refine EX.sub [0] (K0.s (As := [.ref 138, .int 6]) (st := []) csX12_303 dX12_lays_59 rfl rfl (Nat.le_of_ble_eq_true rfl) (k1)) rfl
set_option maxRecDepth 8000 in
theorem qX12_lays_62 {g : GG} {d : Nat} {M : MM} {P : Option Value → MM → Prop}  {la lb pa pb rl : Nat} (L : Lay M la lb pa pb rl)
    (k1 : K0 g YX12_lays YX12_shifts d 72 [.ref 141, .int 1000] [(0, .ref 130)] [] M P) :
    E0 g YX12_lays d 62 [(0, .ref 130)] [] M P := by
  have f1 : ob M 130 12 := L.s rfl (by decide)
  have f2 : mr M 130 19 = some 141 := L.r 136 rfl
  refine x_aload_n dX12_lays_62 0 rfl ?_
  refine x_getR fdX12_41 rfl dX12_lays_63 f1.1 f1.2 f2 ?_
  refine x_sipush (v := 1000) dX12_lays_66 (by decide) ?_
  refine EX.sub [0] (K0.s (As := [.ref 141, .int 1000]) (st := []) csX12_303 dX12_lays_69 rfl rfl (Nat.le_of_ble_eq_true rfl) (k1)) rfl
set_option maxRecDepth 8000 in
theorem qX12_lays_72 {g : GG} {d : Nat} {M : MM} {P : Option Value → MM → Prop} 
    (k1 : E0 g YX12_lays d 74 [(0, .ref 130), (1, .int 0)] [] M P) :
    E0 g YX12_lays d 72 [(0, .ref 130)] [] M P := by
  refine x_iconst (v := 0) dX12_lays_72 (by decide) ?_
  refine x_istore_n (lv1 := [(1, .int 0), (0, .ref 130)]) dX12_lays_73 (by decide) rfl ?_
  exact EX.sub [1, 0] k1 rfl
set_option maxRecDepth 8000 in
theorem qX12_lays_74 {g : GG} {d : Nat} {M : MM} {P : Option Value → MM → Prop} {i1 : Int32} {M1 : MM} {M2 : MM} {la lb pa pb rl : Nat} (L : Lay M la lb pa pb rl)
    (qM1 : M1 = wi M 139 (i1 : Int32).toNatClampNeg ((mi M 139 ((6 + i1) : Int32).toNatClampNeg) - 1000))
    (qM2 : M2 = wi M1 140 (i1 : Int32).toNatClampNeg ((mi M1 140 ((6 + i1) : Int32).toNatClampNeg) - 1000))
    (h1 : ¬ (6 ≤ i1) → vp_in (6 + i1) 12)
    (h2 : ¬ (6 ≤ i1) → vp_in i1 12)
    (h3 : ¬ (6 ≤ i1) → vp_in (6 + i1) 12)
    (h4 : ¬ (6 ≤ i1) → vp_in i1 12)
    (k1 : 6 ≤ i1 → P none M)
    (k2 : ¬ (6 ≤ i1) → E0 g YX12_lays d 74 [(0, .ref 130), (1, .int (i1 + 1))] [] M2 P) :
    E0 g YX12_lays d 74 [(0, .ref 130), (1, .int i1)] [] M P := by
  have f1 : ob M 130 12 := L.s rfl (by decide)
  have f2 : mr M 130 17 = some 139 := L.r 134 rfl
  have f3 : ar M 139 1 12 := L.s rfl (by decide)
  have f4 : mr M 130 18 = some 140 := L.r 135 rfl
  have f5 : ar M 140 1 12 := L.s rfl (by decide)
  subst qM1 qM2
  refine x_iload_n dX12_lays_74 1 rfl ?_
  refine x_bipush (v := 6) dX12_lays_75 (by decide) ?_
  refine x_ic_ge 124 dX12_lays_77 (by decide) (fun c1 => ?_) (fun c1 => ?_)
  · exact x_vret rfl dX12_lays_124 (Nat.le_refl _) (Nat.le_refl _) (k1 c1)
  · refine x_aload_n dX12_lays_80 0 rfl ?_
    refine x_getR fdX12_35 rfl dX12_lays_81 f1.1 f1.2 f2 ?_
    refine x_iload_n dX12_lays_84 1 rfl ?_
    refine x_aload_n dX12_lays_85 0 rfl ?_
    refine x_getR fdX12_35 rfl dX12_lays_86 f1.1 f1.2 f2 ?_
    refine x_bipush (v := 6) dX12_lays_89 (by decide) ?_
    refine x_iload_n dX12_lays_91 1 rfl ?_
    refine x_iadd dX12_lays_92 ?_
    refine x_iald dX12_lays_93 f3.1 f3.2 (h1 c1) ?_
    refine x_sipush (v := 1000) dX12_lays_94 (by decide) ?_
    refine x_isub dX12_lays_97 ?_
    refine x_iast dX12_lays_98 f3.1 f3.2 (h2 c1) ?_
    refine x_aload_n dX12_lays_99 0 rfl ?_
    refine x_getR fdX12_38 rfl dX12_lays_100 f1.1 f1.2 f4 ?_
    refine x_iload_n dX12_lays_103 1 rfl ?_
    refine x_aload_n dX12_lays_104 0 rfl ?_
    refine x_getR fdX12_38 rfl dX12_lays_105 f1.1 f1.2 f4 ?_
    refine x_bipush (v := 6) dX12_lays_108 (by decide) ?_
    refine x_iload_n dX12_lays_110 1 rfl ?_
    refine x_iadd dX12_lays_111 ?_
    refine x_iald dX12_lays_112 f5.1 f5.2 (h3 c1) ?_
    refine x_sipush (v := 1000) dX12_lays_113 (by decide) ?_
    refine x_isub dX12_lays_116 ?_
    refine x_iast dX12_lays_117 f5.1 f5.2 (h4 c1) ?_
    refine x_iinc (v := (i1 + 1)) (lv1 := [(1, .int (i1 + 1)), (0, .ref 130)]) dX12_lays_118 1 rfl rfl (by decide) rfl ?_
    refine x_goto 74 dX12_lays_121 (by decide) ?_
    exact EX.sub [1, 0] (k2 c1) rfl
set_option maxRecDepth 8000 in
theorem qX12_copies_0 {g : GG} {d : Nat} {M : MM} {P : Option Value → MM → Prop} {a0 : Nat} {i1 : Int32} {a2 : Nat} {i3 : Int32}
    (k1 : E0 g YX12_copies d 3 [(0, .ref a0), (1, .int i1), (2, .ref a2), (3, .int i3), (4, .int 0)] [] M P) :
    E0 g YX12_copies d 0 [(0, .ref a0), (1, .int i1), (2, .ref a2), (3, .int i3)] [] M P := by
  refine x_iconst (v := 0) dX12_copies_0 (by decide) ?_
  refine x_istore (lv1 := [(4, .int 0), (0, .ref a0), (1, .int i1), (2, .ref a2), (3, .int i3)]) dX12_copies_1 (by decide) rfl ?_
  exact EX.sub [1, 2, 3, 4, 0] k1 rfl
set_option maxRecDepth 8000 in
theorem qX12_copies_3 {g : GG} {d : Nat} {M : MM} {P : Option Value → MM → Prop} {a0 : Nat} {i1 : Int32} {a2 : Nat} {i3 : Int32} {i4 : Int32} {n_a0 : Nat} {n_a2 : Nat} {M1 : MM}
    (qM1 : M1 = wi M a2 ((i3 + i4) : Int32).toNatClampNeg (mi M a0 ((i1 + i4) : Int32).toNatClampNeg))
    (h1 : ar M a0 1 n_a0)
    (h2 : ¬ (19 ≤ i4) → vp_in (i1 + i4) n_a0)
    (h3 : ar M a2 1 n_a2)
    (h4 : ¬ (19 ≤ i4) → vp_in (i3 + i4) n_a2)
    (k1 : 19 ≤ i4 → P none M)
    (k2 : ¬ (19 ≤ i4) → E0 g YX12_copies d 3 [(0, .ref a0), (1, .int i1), (2, .ref a2), (3, .int i3), (4, .int (i4 + 1))] [] M1 P) :
    E0 g YX12_copies d 3 [(0, .ref a0), (1, .int i1), (2, .ref a2), (3, .int i3), (4, .int i4)] [] M P := by
  subst qM1
  refine x_iload dX12_copies_3 4 rfl ?_
  refine x_bipush (v := 19) dX12_copies_5 (by decide) ?_
  refine x_ic_ge 28 dX12_copies_7 (by decide) (fun c1 => ?_) (fun c1 => ?_)
  · exact x_vret rfl dX12_copies_28 (Nat.le_refl _) (Nat.le_refl _) (k1 c1)
  · refine x_aload_n dX12_copies_10 2 rfl ?_
    refine x_iload_n dX12_copies_11 3 rfl ?_
    refine x_iload dX12_copies_12 4 rfl ?_
    refine x_iadd dX12_copies_14 ?_
    refine x_aload_n dX12_copies_15 0 rfl ?_
    refine x_iload_n dX12_copies_16 1 rfl ?_
    refine x_iload dX12_copies_17 4 rfl ?_
    refine x_iadd dX12_copies_19 ?_
    refine x_iald dX12_copies_20 h1.1 h1.2 (h2 c1) ?_
    refine x_iast dX12_copies_21 h3.1 h3.2 (h4 c1) ?_
    refine x_iinc (v := (i4 + 1)) (lv1 := [(4, .int (i4 + 1)), (0, .ref a0), (1, .int i1), (2, .ref a2), (3, .int i3)]) dX12_copies_22 4 rfl rfl (by decide) rfl ?_
    refine x_goto 3 dX12_copies_25 (by decide) ?_
    exact EX.sub [1, 2, 3, 4, 0] (k2 c1) rfl
set_option maxRecDepth 8000 in
theorem qX12_readsLine_0 {g : GG} {d : Nat} {M : MM} {P : Option Value → MM → Prop}  {la lb pa pb rl : Nat} (L : Lay M la lb pa pb rl)
    (k1 : K0 g YX12_readsLine YX12_isWord d 7 [.ref 130, .long (380237)] [(0, .ref 130)] [] M P) :
    E0 g YX12_readsLine d 0 [(0, .ref 130)] [] M P := by
  have f1 : ob M 130 12 := L.s rfl (by decide)
  refine x_aload_n dX12_readsLine_0 0 rfl ?_
  refine x_ldc2 dX12_readsLine_1 kcX12_237 ?_
  refine EX.sub [0] (K0.v (As := [.long (380237)]) (st := []) cvX12_194 dX12_readsLine_4 rfl rfl f1 rfl (Nat.le_of_ble_eq_true rfl) (k1)) rfl
set_option maxRecDepth 8000 in
theorem qX12_readsLine_7 {g : GG} {d : Nat} {M : MM} {P : Option Value → MM → Prop} {s0 : Int32} {la lb pa pb rl : Nat} (L : Lay M la lb pa pb rl)
    (k1 : s0 = 0 → K0 g YX12_readsLine YX12_isWord d 21 [.ref 130, .long (144941)] [(0, .ref 130)] [] M P)
    (k2 : ¬ (s0 = 0) → ¬ (mi M 154 5) = 40 → K0 g YX12_readsLine YX12_nextToken d 89 [.ref 130] [(0, .ref 130), (1, .int 0)] [] M P)
    (k3 : ¬ (s0 = 0) → (mi M 154 5) = 40 → K0 g YX12_readsLine YX12_fails d 84 [.ref 130, .int 5] [] [] M P) :
    E0 g YX12_readsLine d 7 [(0, .ref 130)] [.int s0] M P := by
  have f1 : ob M 130 12 := L.s rfl (by decide)
  have f2 : mr M 130 35 = some 154 := L.r 149 rfl
  have f3 : ar M 154 1 6 := L.s rfl (by decide)
  refine x_if_eq 14 dX12_readsLine_7 (by decide) (fun c1 => ?_) (fun c1 => ?_)
  · refine x_aload_n dX12_readsLine_14 0 rfl ?_
    refine x_ldc2 dX12_readsLine_15 kcX12_239 ?_
    refine EX.sub [0] (K0.v (As := [.long (144941)]) (st := []) cvX12_194 dX12_readsLine_18 rfl rfl f1 rfl (Nat.le_of_ble_eq_true rfl) (k1 c1)) rfl
  · refine x_iconst (v := 0) dX12_readsLine_10 (by decide) ?_
    refine x_goto 57 dX12_readsLine_11 (by decide) ?_
    refine x_istore_n (lv1 := [(1, .int 0), (0, .ref 130)]) dX12_readsLine_57 (by decide) rfl ?_
    refine x_iload_n dX12_readsLine_58 0 rfl ?_
    refine x_if_ge 68 dX12_readsLine_59 (by decide) (fun _ => ?_) (fun cz => absurd cz (by decide))
    refine x_aload_n dX12_readsLine_68 1 rfl ?_
    refine x_getR fdX12_81 rfl dX12_readsLine_69 f1.1 f1.2 f2 ?_
    refine x_iconst (v := 5) dX12_readsLine_72 (by decide) ?_
    refine x_iald dX12_readsLine_73 f3.1 f3.2 (by unfold vp_in; decide) ?_
    refine x_bipush (v := 40) dX12_readsLine_74 (by decide) ?_
    refine x_ic_ne 85 dX12_readsLine_76 (by decide) (fun c2 => ?_) (fun c2 => ?_)
    · refine x_aload_n dX12_readsLine_85 1 rfl ?_
      refine EX.sub [1, 0] (K0.v (As := []) (st := []) cvX12_209 dX12_readsLine_86 rfl rfl f1 rfl (Nat.le_of_ble_eq_true rfl) (k2 c1 c2)) rfl
    · refine x_aload_n dX12_readsLine_79 1 rfl ?_
      refine x_iconst (v := 5) dX12_readsLine_80 (by decide) ?_
      refine EX.sub [] (K0.v (As := [.int 5]) (st := []) cvX12_202 dX12_readsLine_81 rfl rfl f1 rfl (Nat.le_of_ble_eq_true rfl) (k3 c1 c2)) rfl
set_option maxRecDepth 8000 in
theorem qX12_readsLine_21 {g : GG} {d : Nat} {M : MM} {P : Option Value → MM → Prop} {s0 : Int32} {la lb pa pb rl : Nat} (L : Lay M la lb pa pb rl)
    (k1 : s0 = 0 → K0 g YX12_readsLine YX12_isWord d 35 [.ref 130, .long (10983956)] [(0, .ref 130)] [] M P)
    (k2 : ¬ (s0 = 0) → ¬ (mi M 154 5) = 40 → K0 g YX12_readsLine YX12_nextToken d 89 [.ref 130] [(0, .ref 130), (1, .int 1)] [] M P)
    (k3 : ¬ (s0 = 0) → (mi M 154 5) = 40 → K0 g YX12_readsLine YX12_fails d 84 [.ref 130, .int 5] [] [] M P) :
    E0 g YX12_readsLine d 21 [(0, .ref 130)] [.int s0] M P := by
  have f1 : ob M 130 12 := L.s rfl (by decide)
  have f2 : mr M 130 35 = some 154 := L.r 149 rfl
  have f3 : ar M 154 1 6 := L.s rfl (by decide)
  refine x_if_eq 28 dX12_readsLine_21 (by decide) (fun c1 => ?_) (fun c1 => ?_)
  · refine x_aload_n dX12_readsLine_28 0 rfl ?_
    refine x_ldc2 dX12_readsLine_29 kcX12_241 ?_
    refine EX.sub [0] (K0.v (As := [.long (10983956)]) (st := []) cvX12_194 dX12_readsLine_32 rfl rfl f1 rfl (Nat.le_of_ble_eq_true rfl) (k1 c1)) rfl
  · refine x_iconst (v := 1) dX12_readsLine_24 (by decide) ?_
    refine x_goto 57 dX12_readsLine_25 (by decide) ?_
    refine x_istore_n (lv1 := [(1, .int 1), (0, .ref 130)]) dX12_readsLine_57 (by decide) rfl ?_
    refine x_iload_n dX12_readsLine_58 0 rfl ?_
    refine x_if_ge 68 dX12_readsLine_59 (by decide) (fun _ => ?_) (fun cz => absurd cz (by decide))
    refine x_aload_n dX12_readsLine_68 1 rfl ?_
    refine x_getR fdX12_81 rfl dX12_readsLine_69 f1.1 f1.2 f2 ?_
    refine x_iconst (v := 5) dX12_readsLine_72 (by decide) ?_
    refine x_iald dX12_readsLine_73 f3.1 f3.2 (by unfold vp_in; decide) ?_
    refine x_bipush (v := 40) dX12_readsLine_74 (by decide) ?_
    refine x_ic_ne 85 dX12_readsLine_76 (by decide) (fun c2 => ?_) (fun c2 => ?_)
    · refine x_aload_n dX12_readsLine_85 1 rfl ?_
      refine EX.sub [1, 0] (K0.v (As := []) (st := []) cvX12_209 dX12_readsLine_86 rfl rfl f1 rfl (Nat.le_of_ble_eq_true rfl) (k2 c1 c2)) rfl
    · refine x_aload_n dX12_readsLine_79 1 rfl ?_
      refine x_iconst (v := 5) dX12_readsLine_80 (by decide) ?_
      refine EX.sub [] (K0.v (As := [.int 5]) (st := []) cvX12_202 dX12_readsLine_81 rfl rfl f1 rfl (Nat.le_of_ble_eq_true rfl) (k3 c1 c2)) rfl
set_option maxRecDepth 8000 in
theorem qX12_readsLine_35 {g : GG} {d : Nat} {M : MM} {P : Option Value → MM → Prop} {s0 : Int32} {la lb pa pb rl : Nat} (L : Lay M la lb pa pb rl)
    (k1 : s0 = 0 → K0 g YX12_readsLine YX12_isWord d 49 [.ref 130, .long (409469)] [(0, .ref 130)] [] M P)
    (k2 : ¬ (s0 = 0) → ¬ (mi M 154 5) = 40 → K0 g YX12_readsLine YX12_nextToken d 89 [.ref 130] [(0, .ref 130), (1, .int 2)] [] M P)
    (k3 : ¬ (s0 = 0) → (mi M 154 5) = 40 → K0 g YX12_readsLine YX12_fails d 84 [.ref 130, .int 5] [] [] M P) :
    E0 g YX12_readsLine d 35 [(0, .ref 130)] [.int s0] M P := by
  have f1 : ob M 130 12 := L.s rfl (by decide)
  have f2 : mr M 130 35 = some 154 := L.r 149 rfl
  have f3 : ar M 154 1 6 := L.s rfl (by decide)
  refine x_if_eq 42 dX12_readsLine_35 (by decide) (fun c1 => ?_) (fun c1 => ?_)
  · refine x_aload_n dX12_readsLine_42 0 rfl ?_
    refine x_ldc2 dX12_readsLine_43 kcX12_243 ?_
    refine EX.sub [0] (K0.v (As := [.long (409469)]) (st := []) cvX12_194 dX12_readsLine_46 rfl rfl f1 rfl (Nat.le_of_ble_eq_true rfl) (k1 c1)) rfl
  · refine x_iconst (v := 2) dX12_readsLine_38 (by decide) ?_
    refine x_goto 57 dX12_readsLine_39 (by decide) ?_
    refine x_istore_n (lv1 := [(1, .int 2), (0, .ref 130)]) dX12_readsLine_57 (by decide) rfl ?_
    refine x_iload_n dX12_readsLine_58 0 rfl ?_
    refine x_if_ge 68 dX12_readsLine_59 (by decide) (fun _ => ?_) (fun cz => absurd cz (by decide))
    refine x_aload_n dX12_readsLine_68 1 rfl ?_
    refine x_getR fdX12_81 rfl dX12_readsLine_69 f1.1 f1.2 f2 ?_
    refine x_iconst (v := 5) dX12_readsLine_72 (by decide) ?_
    refine x_iald dX12_readsLine_73 f3.1 f3.2 (by unfold vp_in; decide) ?_
    refine x_bipush (v := 40) dX12_readsLine_74 (by decide) ?_
    refine x_ic_ne 85 dX12_readsLine_76 (by decide) (fun c2 => ?_) (fun c2 => ?_)
    · refine x_aload_n dX12_readsLine_85 1 rfl ?_
      refine EX.sub [1, 0] (K0.v (As := []) (st := []) cvX12_209 dX12_readsLine_86 rfl rfl f1 rfl (Nat.le_of_ble_eq_true rfl) (k2 c1 c2)) rfl
    · refine x_aload_n dX12_readsLine_79 1 rfl ?_
      refine x_iconst (v := 5) dX12_readsLine_80 (by decide) ?_
      refine EX.sub [] (K0.v (As := [.int 5]) (st := []) cvX12_202 dX12_readsLine_81 rfl rfl f1 rfl (Nat.le_of_ble_eq_true rfl) (k3 c1 c2)) rfl
set_option maxRecDepth 8000 in
theorem qX12_readsLine_49 {g : GG} {d : Nat} {M : MM} {P : Option Value → MM → Prop} {s0 : Int32} {la lb pa pb rl : Nat} (L : Lay M la lb pa pb rl)
    (k1 : s0 = 0 → K0 g YX12_readsLine YX12_fails d 67 [.ref 130, .int 1] [] [] M P)
    (k2 : ¬ (s0 = 0) → ¬ (mi M 154 5) = 40 → K0 g YX12_readsLine YX12_nextToken d 89 [.ref 130] [(0, .ref 130), (1, .int 3)] [] M P)
    (k3 : ¬ (s0 = 0) → (mi M 154 5) = 40 → K0 g YX12_readsLine YX12_fails d 84 [.ref 130, .int 5] [] [] M P) :
    E0 g YX12_readsLine d 49 [(0, .ref 130)] [.int s0] M P := by
  have f1 : ob M 130 12 := L.s rfl (by decide)
  have f2 : mr M 130 35 = some 154 := L.r 149 rfl
  have f3 : ar M 154 1 6 := L.s rfl (by decide)
  refine x_if_eq 56 dX12_readsLine_49 (by decide) (fun c1 => ?_) (fun c1 => ?_)
  · refine x_iconst (v := (-1)) dX12_readsLine_56 (by decide) ?_
    refine x_istore_n (lv1 := [(1, .int (-1)), (0, .ref 130)]) dX12_readsLine_57 (by decide) rfl ?_
    refine x_iload_n dX12_readsLine_58 0 rfl ?_
    refine x_if_ge 68 dX12_readsLine_59 (by decide) (fun cz => absurd cz (by decide)) (fun _ => ?_)
    refine x_aload_n dX12_readsLine_62 1 rfl ?_
    refine x_iconst (v := 1) dX12_readsLine_63 (by decide) ?_
    refine EX.sub [] (K0.v (As := [.int 1]) (st := []) cvX12_202 dX12_readsLine_64 rfl rfl f1 rfl (Nat.le_of_ble_eq_true rfl) (k1 c1)) rfl
  · refine x_iconst (v := 3) dX12_readsLine_52 (by decide) ?_
    refine x_goto 57 dX12_readsLine_53 (by decide) ?_
    refine x_istore_n (lv1 := [(1, .int 3), (0, .ref 130)]) dX12_readsLine_57 (by decide) rfl ?_
    refine x_iload_n dX12_readsLine_58 0 rfl ?_
    refine x_if_ge 68 dX12_readsLine_59 (by decide) (fun _ => ?_) (fun cz => absurd cz (by decide))
    refine x_aload_n dX12_readsLine_68 1 rfl ?_
    refine x_getR fdX12_81 rfl dX12_readsLine_69 f1.1 f1.2 f2 ?_
    refine x_iconst (v := 5) dX12_readsLine_72 (by decide) ?_
    refine x_iald dX12_readsLine_73 f3.1 f3.2 (by unfold vp_in; decide) ?_
    refine x_bipush (v := 40) dX12_readsLine_74 (by decide) ?_
    refine x_ic_ne 85 dX12_readsLine_76 (by decide) (fun c2 => ?_) (fun c2 => ?_)
    · refine x_aload_n dX12_readsLine_85 1 rfl ?_
      refine EX.sub [1, 0] (K0.v (As := []) (st := []) cvX12_209 dX12_readsLine_86 rfl rfl f1 rfl (Nat.le_of_ble_eq_true rfl) (k2 c1 c2)) rfl
    · refine x_aload_n dX12_readsLine_79 1 rfl ?_
      refine x_iconst (v := 5) dX12_readsLine_80 (by decide) ?_
      refine EX.sub [] (K0.v (As := [.int 5]) (st := []) cvX12_202 dX12_readsLine_81 rfl rfl f1 rfl (Nat.le_of_ble_eq_true rfl) (k3 c1 c2)) rfl
set_option maxRecDepth 8000 in
theorem qX12_readsLine_67 {g : GG} {d : Nat} {M : MM} {P : Option Value → MM → Prop} {s0 : Int32}
    (h1 : s0 &&& 1 = s0)
    (k1 : P (some (.int s0)) M) :
    E0 g YX12_readsLine d 67 [] [.int s0] M P := by
  exact x_zret rfl dX12_readsLine_67 (h1) (Nat.le_refl _) (Nat.le_refl _) (k1)
set_option maxRecDepth 8000 in
theorem qX12_readsLine_84 {g : GG} {d : Nat} {M : MM} {P : Option Value → MM → Prop} {s0 : Int32}
    (h1 : s0 &&& 1 = s0)
    (k1 : P (some (.int s0)) M) :
    E0 g YX12_readsLine d 84 [] [.int s0] M P := by
  exact x_zret rfl dX12_readsLine_84 (h1) (Nat.le_refl _) (Nat.le_refl _) (k1)
set_option maxRecDepth 8000 in
theorem qX12_readsLine_89 {g : GG} {d : Nat} {M : MM} {P : Option Value → MM → Prop} {i1 : Int32} {M1 : MM} {la lb pa pb rl : Nat} (L : Lay M la lb pa pb rl)
    (qM1 : M1 = wi M 155 ((200 + (mi M 154 5)) : Int32).toNatClampNeg i1)
    (h1 : vp_in (200 + (mi M 154 5)) 240)
    (k1 : i1 = 1 → K0 g YX12_readsLine YX12_needsHall d 121 [.ref 130] [(0, .ref 130), (1, .int i1), (2, .int (200 + (mi M 154 5)))] [] M1 P)
    (k2 : ¬ (i1 = 1) → ¬ i1 = 2 → E0 g YX12_readsLine d 211 [(0, .ref 130)] [] M1 P)
    (k3 : ¬ (i1 = 1) → i1 = 2 → K0 g YX12_readsLine YX12_needsHall d 121 [.ref 130] [(0, .ref 130), (1, .int i1), (2, .int (200 + (mi M 154 5)))] [] M1 P) :
    E0 g YX12_readsLine d 89 [(0, .ref 130), (1, .int i1)] [] M P := by
  have f1 : ob M 130 12 := L.s rfl (by decide)
  have f2 : mr M 130 35 = some 154 := L.r 149 rfl
  have f3 : ar M 154 1 6 := L.s rfl (by decide)
  have f4 : mr M 130 36 = some 155 := L.r 150 rfl
  have f5 : ar M 155 1 240 := L.s rfl (by decide)
  subst qM1
  refine x_sipush (v := 200) dX12_readsLine_89 (by decide) ?_
  refine x_aload_n dX12_readsLine_92 0 rfl ?_
  refine x_getR fdX12_81 rfl dX12_readsLine_93 f1.1 f1.2 f2 ?_
  refine x_iconst (v := 5) dX12_readsLine_96 (by decide) ?_
  refine x_iald dX12_readsLine_97 f3.1 f3.2 (by unfold vp_in; decide) ?_
  refine x_iadd dX12_readsLine_98 ?_
  refine x_istore_n (lv1 := [(2, .int (200 + (mi M 154 5))), (0, .ref 130), (1, .int i1)]) dX12_readsLine_99 (by decide) rfl ?_
  refine x_aload_n dX12_readsLine_100 1 rfl ?_
  refine x_getR fdX12_84 rfl dX12_readsLine_101 f1.1 f1.2 f4 ?_
  refine x_iload_n dX12_readsLine_104 0 rfl ?_
  refine x_iload_n dX12_readsLine_105 2 rfl ?_
  refine x_iast dX12_readsLine_106 f5.1 f5.2 (h1) ?_
  refine x_iload_n dX12_readsLine_107 2 rfl ?_
  refine x_iconst (v := 1) dX12_readsLine_108 (by decide) ?_
  refine x_ic_eq 117 dX12_readsLine_109 (by decide) (fun c1 => ?_) (fun c1 => ?_)
  · refine x_aload_n dX12_readsLine_117 1 rfl ?_
    refine EX.sub [1, 2, 0] (K0.v (As := []) (st := []) cvX12_311 dX12_readsLine_118 rfl rfl f1 rfl (Nat.le_of_ble_eq_true rfl) (k1 c1)) rfl
  · refine x_iload_n dX12_readsLine_112 2 rfl ?_
    refine x_iconst (v := 2) dX12_readsLine_113 (by decide) ?_
    refine x_ic_ne 211 dX12_readsLine_114 (by decide) (fun c2 => ?_) (fun c2 => ?_)
    · exact EX.sub [1] (k2 c1 c2) rfl
    · refine x_aload_n dX12_readsLine_117 1 rfl ?_
      refine EX.sub [1, 2, 0] (K0.v (As := []) (st := []) cvX12_311 dX12_readsLine_118 rfl rfl f1 rfl (Nat.le_of_ble_eq_true rfl) (k3 c1 c2)) rfl
set_option maxRecDepth 8000 in
theorem qX12_readsLine_121 {g : GG} {d : Nat} {M : MM} {P : Option Value → MM → Prop} {i1 : Int32} {i2 : Int32} {s0 : Int32} {M1 : MM} {la lb pa pb rl : Nat} (L : Lay M la lb pa pb rl)
    (qM1 : M1 = wi M 156 (i2 : Int32).toNatClampNeg (mi M 130 33))
    (h1 : ¬ s0 = 0 → vp_in i2 240)
    (k1 : ¬ s0 = 0 → K0 g YX12_readsLine YX12_nextToken d 140 [.ref 130] [(0, .ref 130), (1, .int i1), (2, .int i2)] [] M1 P)
    (k2 : s0 = 0 → P (some (.int 0)) M) :
    E0 g YX12_readsLine d 121 [(0, .ref 130), (1, .int i1), (2, .int i2)] [.int s0] M P := by
  have f1 : ob M 130 12 := L.s rfl (by decide)
  have f2 : mr M 130 37 = some 156 := L.r 151 rfl
  have f3 : ar M 156 1 240 := L.s rfl (by decide)
  subst qM1
  refine x_if_ne 126 dX12_readsLine_121 (by decide) (fun c1 => ?_) (fun c1 => ?_)
  · refine x_aload_n dX12_readsLine_126 0 rfl ?_
    refine x_getR fdX12_87 rfl dX12_readsLine_127 f1.1 f1.2 f2 ?_
    refine x_iload_n dX12_readsLine_130 2 rfl ?_
    refine x_aload_n dX12_readsLine_131 0 rfl ?_
    refine x_getI fdX12_257 rfl dX12_readsLine_132 f1.1 f1.2 ?_
    refine x_iast dX12_readsLine_135 f3.1 f3.2 (h1 c1) ?_
    refine x_aload_n dX12_readsLine_136 0 rfl ?_
    refine EX.sub [0, 1, 2] (K0.v (As := []) (st := []) cvX12_209 dX12_readsLine_137 rfl rfl f1 rfl (Nat.le_of_ble_eq_true rfl) (k1 c1)) rfl
  · refine x_iconst (v := 0) dX12_readsLine_124 (by decide) ?_
    exact x_zret rfl dX12_readsLine_125 rfl (Nat.le_refl _) (Nat.le_refl _) (k2 c1)
set_option maxRecDepth 8000 in
theorem qX12_readsLine_140 {g : GG} {d : Nat} {M : MM} {P : Option Value → MM → Prop} {i1 : Int32} {i2 : Int32} {la lb pa pb rl : Nat} (L : Lay M la lb pa pb rl)
    (k1 : ¬ i1 = 2 → E0 g YX12_readsLine d 187 [(0, .ref 130), (2, .int i2)] [] M P)
    (k2 : i1 = 2 → K0 g YX12_readsLine YX12_needsHall d 149 [.ref 130] [(0, .ref 130), (2, .int i2)] [] M P) :
    E0 g YX12_readsLine d 140 [(0, .ref 130), (1, .int i1), (2, .int i2)] [] M P := by
  have f1 : ob M 130 12 := L.s rfl (by decide)
  refine x_iload_n dX12_readsLine_140 1 rfl ?_
  refine x_iconst (v := 2) dX12_readsLine_141 (by decide) ?_
  refine x_ic_ne 187 dX12_readsLine_142 (by decide) (fun c1 => ?_) (fun c1 => ?_)
  · exact EX.sub [0, 2] (k1 c1) rfl
  · refine x_aload_n dX12_readsLine_145 0 rfl ?_
    refine EX.sub [0, 2] (K0.v (As := []) (st := []) cvX12_311 dX12_readsLine_146 rfl rfl f1 rfl (Nat.le_of_ble_eq_true rfl) (k2 c1)) rfl
set_option maxRecDepth 8000 in
theorem qX12_readsLine_149 {g : GG} {d : Nat} {M : MM} {P : Option Value → MM → Prop} {i2 : Int32} {s0 : Int32} {M1 : MM} {la lb pa pb rl : Nat} (L : Lay M la lb pa pb rl)
    (qM1 : M1 = wi M 157 (i2 : Int32).toNatClampNeg (mi M 130 33))
    (h1 : ¬ s0 = 0 → vp_in i2 240)
    (h2 : ¬ s0 = 0 → ¬ (mi M 130 33) = (mi M 156 (i2 : Int32).toNatClampNeg) → vp_in i2 240)
    (k1 : ¬ s0 = 0 → ¬ (mi M 130 33) = (mi M 156 (i2 : Int32).toNatClampNeg) → K0 g YX12_readsLine YX12_nextToken d 187 [.ref 130] [(0, .ref 130), (2, .int i2)] [] M1 P)
    (k2 : ¬ s0 = 0 → (mi M 130 33) = (mi M 156 (i2 : Int32).toNatClampNeg) → K0 g YX12_readsLine YX12_fails d 172 [.ref 130, .int 3] [] [] M P)
    (k3 : s0 = 0 → P (some (.int 0)) M) :
    E0 g YX12_readsLine d 149 [(0, .ref 130), (2, .int i2)] [.int s0] M P := by
  have f1 : ob M 130 12 := L.s rfl (by decide)
  have f2 : mr M 130 37 = some 156 := L.r 151 rfl
  have f3 : ar M 156 1 240 := L.s rfl (by decide)
  have f4 : mr M 130 38 = some 157 := L.r 152 rfl
  have f5 : ar M 157 1 240 := L.s rfl (by decide)
  subst qM1
  refine x_if_ne 154 dX12_readsLine_149 (by decide) (fun c1 => ?_) (fun c1 => ?_)
  · refine x_aload_n dX12_readsLine_154 0 rfl ?_
    refine x_getI fdX12_257 rfl dX12_readsLine_155 f1.1 f1.2 ?_
    refine x_aload_n dX12_readsLine_158 0 rfl ?_
    refine x_getR fdX12_87 rfl dX12_readsLine_159 f1.1 f1.2 f2 ?_
    refine x_iload_n dX12_readsLine_162 1 rfl ?_
    refine x_iald dX12_readsLine_163 f3.1 f3.2 (h1 c1) ?_
    refine x_ic_ne 173 dX12_readsLine_164 (by decide) (fun c2 => ?_) (fun c2 => ?_)
    · refine x_aload_n dX12_readsLine_173 0 rfl ?_
      refine x_getR fdX12_90 rfl dX12_readsLine_174 f1.1 f1.2 f4 ?_
      refine x_iload_n dX12_readsLine_177 1 rfl ?_
      refine x_aload_n dX12_readsLine_178 0 rfl ?_
      refine x_getI fdX12_257 rfl dX12_readsLine_179 f1.1 f1.2 ?_
      refine x_iast dX12_readsLine_182 f5.1 f5.2 (h2 c1 c2) ?_
      refine x_aload_n dX12_readsLine_183 0 rfl ?_
      refine EX.sub [0, 1] (K0.v (As := []) (st := []) cvX12_209 dX12_readsLine_184 rfl rfl f1 rfl (Nat.le_of_ble_eq_true rfl) (k1 c1 c2)) rfl
    · refine x_aload_n dX12_readsLine_167 0 rfl ?_
      refine x_iconst (v := 3) dX12_readsLine_168 (by decide) ?_
      refine EX.sub [] (K0.v (As := [.int 3]) (st := []) cvX12_202 dX12_readsLine_169 rfl rfl f1 rfl (Nat.le_of_ble_eq_true rfl) (k2 c1 c2)) rfl
  · refine x_iconst (v := 0) dX12_readsLine_152 (by decide) ?_
    exact x_zret rfl dX12_readsLine_153 rfl (Nat.le_refl _) (Nat.le_refl _) (k3 c1)
set_option maxRecDepth 8000 in
theorem qX12_readsLine_172 {g : GG} {d : Nat} {M : MM} {P : Option Value → MM → Prop} {s0 : Int32}
    (h1 : s0 &&& 1 = s0)
    (k1 : P (some (.int s0)) M) :
    E0 g YX12_readsLine d 172 [] [.int s0] M P := by
  exact x_zret rfl dX12_readsLine_172 (h1) (Nat.le_refl _) (Nat.le_refl _) (k1)
set_option maxRecDepth 8000 in
theorem qX12_readsLine_187 {g : GG} {d : Nat} {M : MM} {P : Option Value → MM → Prop} {i2 : Int32} {la lb pa pb rl : Nat} (L : Lay M la lb pa pb rl)
    (k1 : K0 g YX12_readsLine YX12_needsShot d 192 [.ref 130, .int 0] [(0, .ref 130), (2, .int i2)] [] M P) :
    E0 g YX12_readsLine d 187 [(0, .ref 130), (2, .int i2)] [] M P := by
  have f1 : ob M 130 12 := L.s rfl (by decide)
  refine x_aload_n dX12_readsLine_187 0 rfl ?_
  refine x_iconst (v := 0) dX12_readsLine_188 (by decide) ?_
  refine EX.sub [0, 1] (K0.v (As := [.int 0]) (st := []) cvX12_285 dX12_readsLine_189 rfl rfl f1 rfl (Nat.le_of_ble_eq_true rfl) (k1)) rfl
set_option maxRecDepth 8000 in
theorem qX12_readsLine_192 {g : GG} {d : Nat} {M : MM} {P : Option Value → MM → Prop} {i2 : Int32} {s0 : Int32} {M1 : MM} {la lb pa pb rl : Nat} (L : Lay M la lb pa pb rl)
    (qM1 : M1 = wi M 158 (i2 : Int32).toNatClampNeg (mi M 130 33))
    (h1 : ¬ s0 = 0 → vp_in i2 240)
    (k1 : ¬ s0 = 0 → K0 g YX12_readsLine YX12_nextToken d 211 [.ref 130] [(0, .ref 130)] [] M1 P)
    (k2 : s0 = 0 → P (some (.int 0)) M) :
    E0 g YX12_readsLine d 192 [(0, .ref 130), (2, .int i2)] [.int s0] M P := by
  have f1 : ob M 130 12 := L.s rfl (by decide)
  have f2 : mr M 130 39 = some 158 := L.r 153 rfl
  have f3 : ar M 158 1 240 := L.s rfl (by decide)
  subst qM1
  refine x_if_ne 197 dX12_readsLine_192 (by decide) (fun c1 => ?_) (fun c1 => ?_)
  · refine x_aload_n dX12_readsLine_197 0 rfl ?_
    refine x_getR fdX12_93 rfl dX12_readsLine_198 f1.1 f1.2 f2 ?_
    refine x_iload_n dX12_readsLine_201 1 rfl ?_
    refine x_aload_n dX12_readsLine_202 0 rfl ?_
    refine x_getI fdX12_257 rfl dX12_readsLine_203 f1.1 f1.2 ?_
    refine x_iast dX12_readsLine_206 f3.1 f3.2 (h1 c1) ?_
    refine x_aload_n dX12_readsLine_207 0 rfl ?_
    refine EX.sub [0] (K0.v (As := []) (st := []) cvX12_209 dX12_readsLine_208 rfl rfl f1 rfl (Nat.le_of_ble_eq_true rfl) (k1 c1)) rfl
  · refine x_iconst (v := 0) dX12_readsLine_195 (by decide) ?_
    exact x_zret rfl dX12_readsLine_196 rfl (Nat.le_refl _) (Nat.le_refl _) (k2 c1)
set_option maxRecDepth 8000 in
theorem qX12_readsLine_211 {g : GG} {d : Nat} {M : MM} {P : Option Value → MM → Prop}  {M1 : MM} {la lb pa pb rl : Nat} (L : Lay M la lb pa pb rl)
    (qM1 : M1 = wi M 154 5 ((mi M 154 5) + 1))
    (k1 : K0 g YX12_readsLine YX12_closes d 225 [.ref 130] [] [] M1 P) :
    E0 g YX12_readsLine d 211 [(0, .ref 130)] [] M P := by
  have f1 : ob M 130 12 := L.s rfl (by decide)
  have f2 : mr M 130 35 = some 154 := L.r 149 rfl
  have f3 : ar M 154 1 6 := L.s rfl (by decide)
  subst qM1
  refine x_aload_n dX12_readsLine_211 0 rfl ?_
  refine x_getR fdX12_81 rfl dX12_readsLine_212 f1.1 f1.2 f2 ?_
  refine x_iconst (v := 5) dX12_readsLine_215 (by decide) ?_
  refine x_dup2 dX12_readsLine_216 rfl rfl ?_
  refine x_iald dX12_readsLine_217 f3.1 f3.2 (by unfold vp_in; decide) ?_
  refine x_iconst (v := 1) dX12_readsLine_218 (by decide) ?_
  refine x_iadd dX12_readsLine_219 ?_
  refine x_iast dX12_readsLine_220 f3.1 f3.2 (by unfold vp_in; decide) ?_
  refine x_aload_n dX12_readsLine_221 0 rfl ?_
  refine EX.sub [] (K0.v (As := []) (st := []) cvX12_282 dX12_readsLine_222 rfl rfl f1 rfl (Nat.le_of_ble_eq_true rfl) (k1)) rfl
set_option maxRecDepth 8000 in
theorem qX12_readsLine_225 {g : GG} {d : Nat} {M : MM} {P : Option Value → MM → Prop} {s0 : Int32}
    (h1 : s0 &&& 1 = s0)
    (k1 : P (some (.int s0)) M) :
    E0 g YX12_readsLine d 225 [] [.int s0] M P := by
  exact x_zret rfl dX12_readsLine_225 (h1) (Nat.le_refl _) (Nat.le_refl _) (k1)
set_option maxRecDepth 8000 in
theorem qX12_laysLines_0 {g : GG} {d : Nat} {M : MM} {P : Option Value → MM → Prop} {i1 : Int32} {i2 : Int32} {M1 : MM} {la lb pa pb rl : Nat} (L : Lay M la lb pa pb rl)
    (qM1 : M1 = wi M 154 (i2 : Int32).toNatClampNeg (mi M 154 (i1 : Int32).toNatClampNeg))
    (h1 : vp_in i1 6)
    (h2 : vp_in i2 6)
    (k1 : E0 g YX12_laysLines d 14 [(0, .ref 130), (1, .int i1), (2, .int i2), (3, .int 0)] [] M1 P) :
    E0 g YX12_laysLines d 0 [(0, .ref 130), (1, .int i1), (2, .int i2)] [] M P := by
  have f1 : ob M 130 12 := L.s rfl (by decide)
  have f2 : mr M 130 35 = some 154 := L.r 149 rfl
  have f3 : ar M 154 1 6 := L.s rfl (by decide)
  subst qM1
  refine x_aload_n dX12_laysLines_0 0 rfl ?_
  refine x_getR fdX12_81 rfl dX12_laysLines_1 f1.1 f1.2 f2 ?_
  refine x_iload_n dX12_laysLines_4 2 rfl ?_
  refine x_aload_n dX12_laysLines_5 0 rfl ?_
  refine x_getR fdX12_81 rfl dX12_laysLines_6 f1.1 f1.2 f2 ?_
  refine x_iload_n dX12_laysLines_9 1 rfl ?_
  refine x_iald dX12_laysLines_10 f3.1 f3.2 (h1) ?_
  refine x_iast dX12_laysLines_11 f3.1 f3.2 (h2) ?_
  refine x_iconst (v := 0) dX12_laysLines_12 (by decide) ?_
  refine x_istore_n (lv1 := [(3, .int 0), (0, .ref 130), (1, .int i1), (2, .int i2)]) dX12_laysLines_13 (by decide) rfl ?_
  exact EX.sub [1, 2, 3, 0] k1 rfl
set_option maxRecDepth 8000 in
theorem qX12_laysLines_14 {g : GG} {d : Nat} {M : MM} {P : Option Value → MM → Prop} {i1 : Int32} {i2 : Int32} {i3 : Int32} {M1 : MM} {M2 : MM} {M3 : MM} {M4 : MM} {la lb pa pb rl : Nat} (L : Lay M la lb pa pb rl)
    (qM1 : M1 = wi M 155 (((40 * i2) + i3) : Int32).toNatClampNeg (mi M 155 (((40 * i1) + i3) : Int32).toNatClampNeg))
    (qM2 : M2 = wi M1 156 (((40 * i2) + i3) : Int32).toNatClampNeg (mi M1 156 (((40 * i1) + i3) : Int32).toNatClampNeg))
    (qM3 : M3 = wi M2 157 (((40 * i2) + i3) : Int32).toNatClampNeg (mi M2 157 (((40 * i1) + i3) : Int32).toNatClampNeg))
    (qM4 : M4 = wi M3 158 (((40 * i2) + i3) : Int32).toNatClampNeg (mi M3 158 (((40 * i1) + i3) : Int32).toNatClampNeg))
    (h1 : ¬ (40 ≤ i3) → vp_in ((40 * i1) + i3) 240)
    (h2 : ¬ (40 ≤ i3) → vp_in ((40 * i2) + i3) 240)
    (h3 : ¬ (40 ≤ i3) → vp_in ((40 * i1) + i3) 240)
    (h4 : ¬ (40 ≤ i3) → vp_in ((40 * i2) + i3) 240)
    (h5 : ¬ (40 ≤ i3) → vp_in ((40 * i1) + i3) 240)
    (h6 : ¬ (40 ≤ i3) → vp_in ((40 * i2) + i3) 240)
    (h7 : ¬ (40 ≤ i3) → vp_in ((40 * i1) + i3) 240)
    (h8 : ¬ (40 ≤ i3) → vp_in ((40 * i2) + i3) 240)
    (k1 : 40 ≤ i3 → P none M)
    (k2 : ¬ (40 ≤ i3) → E0 g YX12_laysLines d 14 [(0, .ref 130), (1, .int i1), (2, .int i2), (3, .int (i3 + 1))] [] M4 P) :
    E0 g YX12_laysLines d 14 [(0, .ref 130), (1, .int i1), (2, .int i2), (3, .int i3)] [] M P := by
  have f1 : ob M 130 12 := L.s rfl (by decide)
  have f2 : mr M 130 36 = some 155 := L.r 150 rfl
  have f3 : ar M 155 1 240 := L.s rfl (by decide)
  have f4 : mr M 130 37 = some 156 := L.r 151 rfl
  have f5 : ar M 156 1 240 := L.s rfl (by decide)
  have f6 : mr M 130 38 = some 157 := L.r 152 rfl
  have f7 : ar M 157 1 240 := L.s rfl (by decide)
  have f8 : mr M 130 39 = some 158 := L.r 153 rfl
  have f9 : ar M 158 1 240 := L.s rfl (by decide)
  subst qM1 qM2 qM3 qM4
  refine x_iload_n dX12_laysLines_14 3 rfl ?_
  refine x_bipush (v := 40) dX12_laysLines_15 (by decide) ?_
  refine x_ic_ge 114 dX12_laysLines_17 (by decide) (fun c1 => ?_) (fun c1 => ?_)
  · exact x_vret rfl dX12_laysLines_114 (Nat.le_refl _) (Nat.le_refl _) (k1 c1)
  · refine x_aload_n dX12_laysLines_20 0 rfl ?_
    refine x_getR fdX12_84 rfl dX12_laysLines_21 f1.1 f1.2 f2 ?_
    refine x_bipush (v := 40) dX12_laysLines_24 (by decide) ?_
    refine x_iload_n dX12_laysLines_26 2 rfl ?_
    refine x_imul dX12_laysLines_27 ?_
    refine x_iload_n dX12_laysLines_28 3 rfl ?_
    refine x_iadd dX12_laysLines_29 ?_
    refine x_aload_n dX12_laysLines_30 0 rfl ?_
    refine x_getR fdX12_84 rfl dX12_laysLines_31 f1.1 f1.2 f2 ?_
    refine x_bipush (v := 40) dX12_laysLines_34 (by decide) ?_
    refine x_iload_n dX12_laysLines_36 1 rfl ?_
    refine x_imul dX12_laysLines_37 ?_
    refine x_iload_n dX12_laysLines_38 3 rfl ?_
    refine x_iadd dX12_laysLines_39 ?_
    refine x_iald dX12_laysLines_40 f3.1 f3.2 (h1 c1) ?_
    refine x_iast dX12_laysLines_41 f3.1 f3.2 (h2 c1) ?_
    refine x_aload_n dX12_laysLines_42 0 rfl ?_
    refine x_getR fdX12_87 rfl dX12_laysLines_43 f1.1 f1.2 f4 ?_
    refine x_bipush (v := 40) dX12_laysLines_46 (by decide) ?_
    refine x_iload_n dX12_laysLines_48 2 rfl ?_
    refine x_imul dX12_laysLines_49 ?_
    refine x_iload_n dX12_laysLines_50 3 rfl ?_
    refine x_iadd dX12_laysLines_51 ?_
    refine x_aload_n dX12_laysLines_52 0 rfl ?_
    refine x_getR fdX12_87 rfl dX12_laysLines_53 f1.1 f1.2 f4 ?_
    refine x_bipush (v := 40) dX12_laysLines_56 (by decide) ?_
    refine x_iload_n dX12_laysLines_58 1 rfl ?_
    refine x_imul dX12_laysLines_59 ?_
    refine x_iload_n dX12_laysLines_60 3 rfl ?_
    refine x_iadd dX12_laysLines_61 ?_
    refine x_iald dX12_laysLines_62 f5.1 f5.2 (h3 c1) ?_
    refine x_iast dX12_laysLines_63 f5.1 f5.2 (h4 c1) ?_
    refine x_aload_n dX12_laysLines_64 0 rfl ?_
    refine x_getR fdX12_90 rfl dX12_laysLines_65 f1.1 f1.2 f6 ?_
    refine x_bipush (v := 40) dX12_laysLines_68 (by decide) ?_
    refine x_iload_n dX12_laysLines_70 2 rfl ?_
    refine x_imul dX12_laysLines_71 ?_
    refine x_iload_n dX12_laysLines_72 3 rfl ?_
    refine x_iadd dX12_laysLines_73 ?_
    refine x_aload_n dX12_laysLines_74 0 rfl ?_
    refine x_getR fdX12_90 rfl dX12_laysLines_75 f1.1 f1.2 f6 ?_
    refine x_bipush (v := 40) dX12_laysLines_78 (by decide) ?_
    refine x_iload_n dX12_laysLines_80 1 rfl ?_
    refine x_imul dX12_laysLines_81 ?_
    refine x_iload_n dX12_laysLines_82 3 rfl ?_
    refine x_iadd dX12_laysLines_83 ?_
    refine x_iald dX12_laysLines_84 f7.1 f7.2 (h5 c1) ?_
    refine x_iast dX12_laysLines_85 f7.1 f7.2 (h6 c1) ?_
    refine x_aload_n dX12_laysLines_86 0 rfl ?_
    refine x_getR fdX12_93 rfl dX12_laysLines_87 f1.1 f1.2 f8 ?_
    refine x_bipush (v := 40) dX12_laysLines_90 (by decide) ?_
    refine x_iload_n dX12_laysLines_92 2 rfl ?_
    refine x_imul dX12_laysLines_93 ?_
    refine x_iload_n dX12_laysLines_94 3 rfl ?_
    refine x_iadd dX12_laysLines_95 ?_
    refine x_aload_n dX12_laysLines_96 0 rfl ?_
    refine x_getR fdX12_93 rfl dX12_laysLines_97 f1.1 f1.2 f8 ?_
    refine x_bipush (v := 40) dX12_laysLines_100 (by decide) ?_
    refine x_iload_n dX12_laysLines_102 1 rfl ?_
    refine x_imul dX12_laysLines_103 ?_
    refine x_iload_n dX12_laysLines_104 3 rfl ?_
    refine x_iadd dX12_laysLines_105 ?_
    refine x_iald dX12_laysLines_106 f9.1 f9.2 (h7 c1) ?_
    refine x_iast dX12_laysLines_107 f9.1 f9.2 (h8 c1) ?_
    refine x_iinc (v := (i3 + 1)) (lv1 := [(3, .int (i3 + 1)), (0, .ref 130), (1, .int i1), (2, .int i2)]) dX12_laysLines_108 3 rfl rfl (by decide) rfl ?_
    refine x_goto 14 dX12_laysLines_111 (by decide) ?_
    exact EX.sub [1, 2, 3, 0] (k2 c1) rfl
set_option maxRecDepth 8000 in
theorem qX12_laysSeen_0 {g : GG} {d : Nat} {M : MM} {P : Option Value → MM → Prop} {i1 : Int32} {i2 : Int32} {M1 : MM} {la lb pa pb rl : Nat} (L : Lay M la lb pa pb rl)
    (qM1 : M1 = wi M 159 (i2 : Int32).toNatClampNeg (mi M 159 (i1 : Int32).toNatClampNeg))
    (h1 : vp_in i1 5)
    (h2 : vp_in i2 5)
    (k1 : E0 g YX12_laysSeen d 14 [(0, .ref 130), (1, .int i1), (2, .int i2), (3, .int 0)] [] M1 P) :
    E0 g YX12_laysSeen d 0 [(0, .ref 130), (1, .int i1), (2, .int i2)] [] M P := by
  have f1 : ob M 130 12 := L.s rfl (by decide)
  have f2 : mr M 130 40 = some 159 := L.r 154 rfl
  have f3 : ar M 159 1 5 := L.s rfl (by decide)
  subst qM1
  refine x_aload_n dX12_laysSeen_0 0 rfl ?_
  refine x_getR fdX12_96 rfl dX12_laysSeen_1 f1.1 f1.2 f2 ?_
  refine x_iload_n dX12_laysSeen_4 2 rfl ?_
  refine x_aload_n dX12_laysSeen_5 0 rfl ?_
  refine x_getR fdX12_96 rfl dX12_laysSeen_6 f1.1 f1.2 f2 ?_
  refine x_iload_n dX12_laysSeen_9 1 rfl ?_
  refine x_iald dX12_laysSeen_10 f3.1 f3.2 (h1) ?_
  refine x_iast dX12_laysSeen_11 f3.1 f3.2 (h2) ?_
  refine x_iconst (v := 0) dX12_laysSeen_12 (by decide) ?_
  refine x_istore_n (lv1 := [(3, .int 0), (0, .ref 130), (1, .int i1), (2, .int i2)]) dX12_laysSeen_13 (by decide) rfl ?_
  exact EX.sub [1, 2, 3, 0] k1 rfl
set_option maxRecDepth 8000 in
theorem qX12_laysSeen_14 {g : GG} {d : Nat} {M : MM} {P : Option Value → MM → Prop} {i1 : Int32} {i2 : Int32} {i3 : Int32} {M1 : MM} {M2 : MM} {la lb pa pb rl : Nat} (L : Lay M la lb pa pb rl)
    (qM1 : M1 = wi M 160 (((8 * i2) + i3) : Int32).toNatClampNeg (mi M 160 (((8 * i1) + i3) : Int32).toNatClampNeg))
    (qM2 : M2 = wi M1 161 (((8 * i2) + i3) : Int32).toNatClampNeg (vp_nar .boolean (mi M1 161 (((8 * i1) + i3) : Int32).toNatClampNeg)))
    (h1 : ¬ (8 ≤ i3) → vp_in ((8 * i1) + i3) 40)
    (h2 : ¬ (8 ≤ i3) → vp_in ((8 * i2) + i3) 40)
    (h3 : ¬ (8 ≤ i3) → vp_in ((8 * i1) + i3) 40)
    (h4 : ¬ (8 ≤ i3) → vp_in ((8 * i2) + i3) 40)
    (k1 : 8 ≤ i3 → P none M)
    (k2 : ¬ (8 ≤ i3) → E0 g YX12_laysSeen d 14 [(0, .ref 130), (1, .int i1), (2, .int i2), (3, .int (i3 + 1))] [] M2 P) :
    E0 g YX12_laysSeen d 14 [(0, .ref 130), (1, .int i1), (2, .int i2), (3, .int i3)] [] M P := by
  have f1 : ob M 130 12 := L.s rfl (by decide)
  have f2 : mr M 130 41 = some 160 := L.r 155 rfl
  have f3 : ar M 160 1 40 := L.s rfl (by decide)
  have f4 : mr M 130 42 = some 161 := L.r 156 rfl
  have f5 : ar M 161 3 40 := L.s rfl (by decide)
  subst qM1 qM2
  refine x_iload_n dX12_laysSeen_14 3 rfl ?_
  refine x_bipush (v := 8) dX12_laysSeen_15 (by decide) ?_
  refine x_ic_ge 70 dX12_laysSeen_17 (by decide) (fun c1 => ?_) (fun c1 => ?_)
  · exact x_vret rfl dX12_laysSeen_70 (Nat.le_refl _) (Nat.le_refl _) (k1 c1)
  · refine x_aload_n dX12_laysSeen_20 0 rfl ?_
    refine x_getR fdX12_99 rfl dX12_laysSeen_21 f1.1 f1.2 f2 ?_
    refine x_bipush (v := 8) dX12_laysSeen_24 (by decide) ?_
    refine x_iload_n dX12_laysSeen_26 2 rfl ?_
    refine x_imul dX12_laysSeen_27 ?_
    refine x_iload_n dX12_laysSeen_28 3 rfl ?_
    refine x_iadd dX12_laysSeen_29 ?_
    refine x_aload_n dX12_laysSeen_30 0 rfl ?_
    refine x_getR fdX12_99 rfl dX12_laysSeen_31 f1.1 f1.2 f2 ?_
    refine x_bipush (v := 8) dX12_laysSeen_34 (by decide) ?_
    refine x_iload_n dX12_laysSeen_36 1 rfl ?_
    refine x_imul dX12_laysSeen_37 ?_
    refine x_iload_n dX12_laysSeen_38 3 rfl ?_
    refine x_iadd dX12_laysSeen_39 ?_
    refine x_iald dX12_laysSeen_40 f3.1 f3.2 (h1 c1) ?_
    refine x_iast dX12_laysSeen_41 f3.1 f3.2 (h2 c1) ?_
    refine x_aload_n dX12_laysSeen_42 0 rfl ?_
    refine x_getR fdX12_102 rfl dX12_laysSeen_43 f1.1 f1.2 f4 ?_
    refine x_bipush (v := 8) dX12_laysSeen_46 (by decide) ?_
    refine x_iload_n dX12_laysSeen_48 2 rfl ?_
    refine x_imul dX12_laysSeen_49 ?_
    refine x_iload_n dX12_laysSeen_50 3 rfl ?_
    refine x_iadd dX12_laysSeen_51 ?_
    refine x_aload_n dX12_laysSeen_52 0 rfl ?_
    refine x_getR fdX12_102 rfl dX12_laysSeen_53 f1.1 f1.2 f4 ?_
    refine x_bipush (v := 8) dX12_laysSeen_56 (by decide) ?_
    refine x_iload_n dX12_laysSeen_58 1 rfl ?_
    refine x_imul dX12_laysSeen_59 ?_
    refine x_iload_n dX12_laysSeen_60 3 rfl ?_
    refine x_iadd dX12_laysSeen_61 ?_
    refine x_zald dX12_laysSeen_62 f5.1 f5.2 (h3 c1) ?_
    refine x_zast dX12_laysSeen_63 f5.1 f5.2 (h4 c1) ?_
    refine x_iinc (v := (i3 + 1)) (lv1 := [(3, .int (i3 + 1)), (0, .ref 130), (1, .int i1), (2, .int i2)]) dX12_laysSeen_64 3 rfl rfl (by decide) rfl ?_
    refine x_goto 14 dX12_laysSeen_67 (by decide) ?_
    exact EX.sub [1, 2, 3, 0] (k2 c1) rfl
set_option maxRecDepth 8000 in
theorem qX12_fresh_0 {g : GG} {d : Nat} {M : MM} {P : Option Value → MM → Prop} 
    (k1 : E0 g YX12_fresh d 2 [(0, .ref 130), (1, .int 0)] [] M P) :
    E0 g YX12_fresh d 0 [(0, .ref 130)] [] M P := by
  refine x_iconst (v := 0) dX12_fresh_0 (by decide) ?_
  refine x_istore_n (lv1 := [(1, .int 0), (0, .ref 130)]) dX12_fresh_1 (by decide) rfl ?_
  exact EX.sub [1, 0] k1 rfl
set_option maxRecDepth 8000 in
theorem qX12_fresh_2 {g : GG} {d : Nat} {M : MM} {P : Option Value → MM → Prop} {i1 : Int32} {M1 : MM} {la lb pa pb rl : Nat} (L : Lay M la lb pa pb rl)
    (qM1 : M1 = wi M 162 (i1 : Int32).toNatClampNeg 0)
    (h1 : ¬ (19 ≤ i1) → vp_in i1 19)
    (k1 : 19 ≤ i1 → K0 g YX12_fresh YX12_allShots d 30 [.ref 130] [(0, .ref 130)] [.int 0, .ref 162] M P)
    (k2 : ¬ (19 ≤ i1) → E0 g YX12_fresh d 2 [(0, .ref 130), (1, .int (i1 + 1))] [] M1 P) :
    E0 g YX12_fresh d 2 [(0, .ref 130), (1, .int i1)] [] M P := by
  have f1 : ob M 130 12 := L.s rfl (by decide)
  have f2 : mr M 130 43 = some 162 := L.r 157 rfl
  have f3 : ar M 162 1 19 := L.s rfl (by decide)
  subst qM1
  refine x_iload_n dX12_fresh_2 1 rfl ?_
  refine x_bipush (v := 19) dX12_fresh_3 (by decide) ?_
  refine x_ic_ge 21 dX12_fresh_5 (by decide) (fun c1 => ?_) (fun c1 => ?_)
  · refine x_aload_n dX12_fresh_21 0 rfl ?_
    refine x_getR fdX12_105 rfl dX12_fresh_22 f1.1 f1.2 f2 ?_
    refine x_iconst (v := 0) dX12_fresh_25 (by decide) ?_
    refine x_aload_n dX12_fresh_26 0 rfl ?_
    refine EX.sub [0] (K0.v (As := []) (st := [.int 0, .ref 162]) cvX12_314 dX12_fresh_27 rfl rfl f1 rfl (Nat.le_of_ble_eq_true rfl) (k1 c1)) rfl
  · refine x_aload_n dX12_fresh_8 0 rfl ?_
    refine x_getR fdX12_105 rfl dX12_fresh_9 f1.1 f1.2 f2 ?_
    refine x_iload_n dX12_fresh_12 1 rfl ?_
    refine x_iconst (v := 0) dX12_fresh_13 (by decide) ?_
    refine x_iast dX12_fresh_14 f3.1 f3.2 (h1 c1) ?_
    refine x_iinc (v := (i1 + 1)) (lv1 := [(1, .int (i1 + 1)), (0, .ref 130)]) dX12_fresh_15 1 rfl rfl (by decide) rfl ?_
    refine x_goto 2 dX12_fresh_18 (by decide) ?_
    exact EX.sub [1, 0] (k2 c1) rfl
set_option maxRecDepth 8000 in
theorem qX12_fresh_30 {g : GG} {d : Nat} {M : MM} {P : Option Value → MM → Prop} {s0 : Nat} {s1 : Int32} {s2 : Int32} {n_s0 : Nat} {M1 : MM}
    (qM1 : M1 = wi M s0 (s1 : Int32).toNatClampNeg s2)
    (h1 : ar M s0 1 n_s0)
    (h2 : vp_in s1 n_s0)
    (k1 : E0 g YX12_fresh d 33 [(0, .ref 130), (1, .int 0)] [] M1 P) :
    E0 g YX12_fresh d 30 [(0, .ref 130)] [.int s2, .int s1, .ref s0] M P := by
  subst qM1
  refine x_iast dX12_fresh_30 h1.1 h1.2 (h2) ?_
  refine x_iconst (v := 0) dX12_fresh_31 (by decide) ?_
  refine x_istore_n (lv1 := [(1, .int 0), (0, .ref 130)]) dX12_fresh_32 (by decide) rfl ?_
  exact EX.sub [1, 0] k1 rfl
set_option maxRecDepth 8000 in
theorem qX12_fresh_33 {g : GG} {d : Nat} {M : MM} {P : Option Value → MM → Prop} {i1 : Int32} {M1 : MM} {la lb pa pb rl : Nat} (L : Lay M la lb pa pb rl)
    (qM1 : M1 = wi M 162 ((3 + i1) : Int32).toNatClampNeg i1)
    (h1 : ¬ (6 ≤ i1) → vp_in (3 + i1) 19)
    (k1 : 6 ≤ i1 → P none M)
    (k2 : ¬ (6 ≤ i1) → E0 g YX12_fresh d 33 [(0, .ref 130), (1, .int (i1 + 1))] [] M1 P) :
    E0 g YX12_fresh d 33 [(0, .ref 130), (1, .int i1)] [] M P := by
  have f1 : ob M 130 12 := L.s rfl (by decide)
  have f2 : mr M 130 43 = some 162 := L.r 157 rfl
  have f3 : ar M 162 1 19 := L.s rfl (by decide)
  subst qM1
  refine x_iload_n dX12_fresh_33 1 rfl ?_
  refine x_bipush (v := 6) dX12_fresh_34 (by decide) ?_
  refine x_ic_ge 54 dX12_fresh_36 (by decide) (fun c1 => ?_) (fun c1 => ?_)
  · exact x_vret rfl dX12_fresh_54 (Nat.le_refl _) (Nat.le_refl _) (k1 c1)
  · refine x_aload_n dX12_fresh_39 0 rfl ?_
    refine x_getR fdX12_105 rfl dX12_fresh_40 f1.1 f1.2 f2 ?_
    refine x_iconst (v := 3) dX12_fresh_43 (by decide) ?_
    refine x_iload_n dX12_fresh_44 1 rfl ?_
    refine x_iadd dX12_fresh_45 ?_
    refine x_iload_n dX12_fresh_46 1 rfl ?_
    refine x_iast dX12_fresh_47 f3.1 f3.2 (h1 c1) ?_
    refine x_iinc (v := (i1 + 1)) (lv1 := [(1, .int (i1 + 1)), (0, .ref 130)]) dX12_fresh_48 1 rfl rfl (by decide) rfl ?_
    refine x_goto 33 dX12_fresh_51 (by decide) ?_
    exact EX.sub [1, 0] (k2 c1) rfl
set_option maxRecDepth 8000 in
theorem qX12_county_0 {g : GG} {d : Nat} {M : MM} {P : Option Value → MM → Prop}  {M1 : MM} {la lb pa pb rl : Nat} (L : Lay M la lb pa pb rl)
    (qM1 : M1 = wi M 130 0 0)
    (k1 : K0 g YX12_county YX12_readsAll d 9 [.ref 130] [(0, .ref 130)] [] M1 P) :
    E0 g YX12_county d 0 [(0, .ref 130)] [] M P := by
  have f1 : ob M 130 12 := L.s rfl (by decide)
  subst qM1
  refine x_aload_n dX12_county_0 0 rfl ?_
  refine x_iconst (v := 0) dX12_county_1 (by decide) ?_
  refine x_putI fdX12_138 rfl (Or.inl rfl) dX12_county_2 f1.1 f1.2 rfl rfl ?_
  refine x_aload_n dX12_county_5 0 rfl ?_
  refine EX.sub [0] (K0.v (As := []) (st := []) cvX12_317 dX12_county_6 rfl rfl f1 rfl (Nat.le_of_ble_eq_true rfl) (k1)) rfl
set_option maxRecDepth 8000 in
theorem qX12_county_9 {g : GG} {d : Nat} {M : MM} {P : Option Value → MM → Prop} {s0 : Int32} {la lb pa pb rl : Nat} (L : Lay M la lb pa pb rl)
    (k1 : ¬ s0 = 0 → K0 g YX12_county YX12_lays d 21 [.ref 130] [(0, .ref 130)] [] M P)
    (k2 : s0 = 0 → P (some (.int (mi M 130 9))) M) :
    E0 g YX12_county d 9 [(0, .ref 130)] [.int s0] M P := by
  have f1 : ob M 130 12 := L.s rfl (by decide)
  refine x_if_ne 17 dX12_county_9 (by decide) (fun c1 => ?_) (fun c1 => ?_)
  · refine x_aload_n dX12_county_17 0 rfl ?_
    refine EX.sub [0] (K0.v (As := []) (st := []) cvX12_320 dX12_county_18 rfl rfl f1 rfl (Nat.le_of_ble_eq_true rfl) (k1 c1)) rfl
  · refine x_aload_n dX12_county_12 0 rfl ?_
    refine x_getI fdX12_174 rfl dX12_county_13 f1.1 f1.2 ?_
    exact x_iret rfl dX12_county_16 (Nat.le_refl _) (Nat.le_refl _) (k2 c1)
set_option maxRecDepth 8000 in
theorem qX12_county_21 {g : GG} {d : Nat} {M : MM} {P : Option Value → MM → Prop}  {la lb pa pb rl : Nat} (L : Lay M la lb pa pb rl)
    (k1 : K0 g YX12_county YX12_fresh d 25 [.ref 130] [(0, .ref 130)] [] M P) :
    E0 g YX12_county d 21 [(0, .ref 130)] [] M P := by
  have f1 : ob M 130 12 := L.s rfl (by decide)
  refine x_aload_n dX12_county_21 0 rfl ?_
  refine EX.sub [0] (K0.v (As := []) (st := []) cvX12_135 dX12_county_22 rfl rfl f1 rfl (Nat.le_of_ble_eq_true rfl) (k1)) rfl
set_option maxRecDepth 8000 in
theorem qX12_county_25 {g : GG} {d : Nat} {M : MM} {P : Option Value → MM → Prop}  {M1 : MM} {M2 : MM} {M3 : MM} {la lb pa pb rl : Nat} (L : Lay M la lb pa pb rl)
    (qM1 : M1 = wi M 154 0 0)
    (qM2 : M2 = wi M1 159 0 0)
    (qM3 : M3 = wi M2 130 49 0)
    (k1 : E0 g YX12_county d 46 [(0, .ref 130), (1, .int 0)] [] M3 P) :
    E0 g YX12_county d 25 [(0, .ref 130)] [] M P := by
  have f1 : ob M 130 12 := L.s rfl (by decide)
  have f2 : mr M 130 35 = some 154 := L.r 149 rfl
  have f3 : ar M 154 1 6 := L.s rfl (by decide)
  have f4 : mr M 130 40 = some 159 := L.r 154 rfl
  have f5 : ar M 159 1 5 := L.s rfl (by decide)
  subst qM1 qM2 qM3
  refine x_aload_n dX12_county_25 0 rfl ?_
  refine x_getR fdX12_81 rfl dX12_county_26 f1.1 f1.2 f2 ?_
  refine x_iconst (v := 0) dX12_county_29 (by decide) ?_
  refine x_iconst (v := 0) dX12_county_30 (by decide) ?_
  refine x_iast dX12_county_31 f3.1 f3.2 (by unfold vp_in; decide) ?_
  refine x_aload_n dX12_county_32 0 rfl ?_
  refine x_getR fdX12_96 rfl dX12_county_33 f1.1 f1.2 f4 ?_
  refine x_iconst (v := 0) dX12_county_36 (by decide) ?_
  refine x_iconst (v := 0) dX12_county_37 (by decide) ?_
  refine x_iast dX12_county_38 f5.1 f5.2 (by unfold vp_in; decide) ?_
  refine x_aload_n dX12_county_39 0 rfl ?_
  refine x_iconst (v := 0) dX12_county_40 (by decide) ?_
  refine x_putI fdX12_323 rfl (Or.inl rfl) dX12_county_41 f1.1 f1.2 rfl rfl ?_
  refine x_iconst (v := 0) dX12_county_44 (by decide) ?_
  refine x_istore_n (lv1 := [(1, .int 0), (0, .ref 130)]) dX12_county_45 (by decide) rfl ?_
  exact EX.sub [1, 0] k1 rfl
set_option maxRecDepth 8000 in
theorem qX12_county_46 {g : GG} {d : Nat} {M : MM} {P : Option Value → MM → Prop} {i1 : Int32} {M1 : MM} {la lb pa pb rl : Nat} (L : Lay M la lb pa pb rl)
    (qM1 : M1 = wi M 167 (i1 : Int32).toNatClampNeg (vp_nar .boolean 0))
    (h1 : ¬ (4 ≤ i1) → vp_in i1 4)
    (k1 : 4 ≤ i1 → P (some (.int 0)) M)
    (k2 : ¬ (4 ≤ i1) → E0 g YX12_county d 46 [(0, .ref 130), (1, .int (i1 + 1))] [] M1 P) :
    E0 g YX12_county d 46 [(0, .ref 130), (1, .int i1)] [] M P := by
  have f1 : ob M 130 12 := L.s rfl (by decide)
  have f2 : mr M 130 48 = some 167 := L.r 162 rfl
  have f3 : ar M 167 3 4 := L.s rfl (by decide)
  subst qM1
  refine x_iload_n dX12_county_46 1 rfl ?_
  refine x_iconst (v := 4) dX12_county_47 (by decide) ?_
  refine x_ic_ge 64 dX12_county_48 (by decide) (fun c1 => ?_) (fun c1 => ?_)
  · refine x_iconst (v := 0) dX12_county_64 (by decide) ?_
    exact x_iret rfl dX12_county_65 (Nat.le_refl _) (Nat.le_refl _) (k1 c1)
  · refine x_aload_n dX12_county_51 0 rfl ?_
    refine x_getR fdX12_120 rfl dX12_county_52 f1.1 f1.2 f2 ?_
    refine x_iload_n dX12_county_55 1 rfl ?_
    refine x_iconst (v := 0) dX12_county_56 (by decide) ?_
    refine x_zast dX12_county_57 f3.1 f3.2 (h1 c1) ?_
    refine x_iinc (v := (i1 + 1)) (lv1 := [(1, .int (i1 + 1)), (0, .ref 130)]) dX12_county_58 1 rfl rfl (by decide) rfl ?_
    refine x_goto 46 dX12_county_61 (by decide) ?_
    exact EX.sub [1, 0] (k2 c1) rfl
set_option maxRecDepth 8000 in
theorem qX12_round_0 {g : GG} {d : Nat} {M : MM} {P : Option Value → MM → Prop}  {M1 : MM} {M2 : MM} {la lb pa pb rl : Nat} (L : Lay M la lb pa pb rl)
    (qM1 : M1 = wi M 130 0 0)
    (qM2 : M2 = wi M1 154 5 0)
    (k1 : K0 g YX12_round YX12_begins d 16 [.ref 130] [(0, .ref 130)] [] M2 P) :
    E0 g YX12_round d 0 [(0, .ref 130)] [] M P := by
  have f1 : ob M 130 12 := L.s rfl (by decide)
  have f2 : mr M 130 35 = some 154 := L.r 149 rfl
  have f3 : ar M 154 1 6 := L.s rfl (by decide)
  subst qM1 qM2
  refine x_aload_n dX12_round_0 0 rfl ?_
  refine x_iconst (v := 0) dX12_round_1 (by decide) ?_
  refine x_putI fdX12_138 rfl (Or.inl rfl) dX12_round_2 f1.1 f1.2 rfl rfl ?_
  refine x_aload_n dX12_round_5 0 rfl ?_
  refine x_getR fdX12_81 rfl dX12_round_6 f1.1 f1.2 f2 ?_
  refine x_iconst (v := 5) dX12_round_9 (by decide) ?_
  refine x_iconst (v := 0) dX12_round_10 (by decide) ?_
  refine x_iast dX12_round_11 f3.1 f3.2 (by unfold vp_in; decide) ?_
  refine x_aload_n dX12_round_12 0 rfl ?_
  refine EX.sub [0] (K0.v (As := []) (st := []) cvX12_291 dX12_round_13 rfl rfl f1 rfl (Nat.le_of_ble_eq_true rfl) (k1)) rfl
set_option maxRecDepth 8000 in
theorem qX12_round_16 {g : GG} {d : Nat} {M : MM} {P : Option Value → MM → Prop}  {la lb pa pb rl : Nat} (L : Lay M la lb pa pb rl)
    (k1 : (mi M 130 6) = 0 → K0 g YX12_round YX12_laysLines d 41 [.ref 130, .int 5, .int 0] [] [] M P)
    (k2 : ¬ ((mi M 130 6) = 0) → K0 g YX12_round YX12_readsLine d 27 [.ref 130] [(0, .ref 130)] [] M P) :
    E0 g YX12_round d 16 [(0, .ref 130)] [] M P := by
  have f1 : ob M 130 12 := L.s rfl (by decide)
  refine x_aload_n dX12_round_16 0 rfl ?_
  refine x_getI fdX12_163 rfl dX12_round_17 f1.1 f1.2 ?_
  refine x_if_eq 35 dX12_round_20 (by decide) (fun c1 => ?_) (fun c1 => ?_)
  · refine x_aload_n dX12_round_35 0 rfl ?_
    refine x_iconst (v := 5) dX12_round_36 (by decide) ?_
    refine x_iconst (v := 0) dX12_round_37 (by decide) ?_
    refine EX.sub [] (K0.v (As := [.int 5, .int 0]) (st := []) cvX12_329 dX12_round_38 rfl rfl f1 rfl (Nat.le_of_ble_eq_true rfl) (k1 c1)) rfl
  · refine x_aload_n dX12_round_23 0 rfl ?_
    refine EX.sub [0] (K0.v (As := []) (st := []) cvX12_326 dX12_round_24 rfl rfl f1 rfl (Nat.le_of_ble_eq_true rfl) (k2 c1)) rfl
set_option maxRecDepth 8000 in
theorem qX12_round_27 {g : GG} {d : Nat} {M : MM} {P : Option Value → MM → Prop} {s0 : Int32} {la lb pa pb rl : Nat} (L : Lay M la lb pa pb rl)
    (k1 : ¬ s0 = 0 → E0 g YX12_round d 16 [(0, .ref 130)] [] M P)
    (k2 : s0 = 0 → P (some (.int (mi M 130 9))) M) :
    E0 g YX12_round d 27 [(0, .ref 130)] [.int s0] M P := by
  have f1 : ob M 130 12 := L.s rfl (by decide)
  refine x_if_ne 16 dX12_round_27 (by decide) (fun c1 => ?_) (fun c1 => ?_)
  · exact EX.sub [0] (k1 c1) rfl
  · refine x_aload_n dX12_round_30 0 rfl ?_
    refine x_getI fdX12_174 rfl dX12_round_31 f1.1 f1.2 ?_
    exact x_iret rfl dX12_round_34 (Nat.le_refl _) (Nat.le_refl _) (k2 c1)
set_option maxRecDepth 8000 in
theorem qX12_round_41 {g : GG} {d : Nat} {M : MM} {P : Option Value → MM → Prop} 
    (k1 : P (some (.int 0)) M) :
    E0 g YX12_round d 41 [] [] M P := by
  refine x_iconst (v := 0) dX12_round_41 (by decide) ?_
  exact x_iret rfl dX12_round_42 (Nat.le_refl _) (Nat.le_refl _) (k1)
set_option maxRecDepth 8000 in
theorem qX12_allShots_0 {g : GG} {d : Nat} {M : MM} {P : Option Value → MM → Prop}  {la lb pa pb rl : Nat} (L : Lay M la lb pa pb rl)
    (k1 : P (some (.int (((1 : Int32) <<< ((mi M 132 0) &&& 31)) - 1))) M) :
    E0 g YX12_allShots d 0 [(0, .ref 130)] [] M P := by
  have f1 : ob M 130 12 := L.s rfl (by decide)
  have f2 : mr M 130 10 = some 132 := L.r 127 rfl
  have f3 : ar M 132 1 4 := L.s rfl (by decide)
  refine x_iconst (v := 1) dX12_allShots_0 (by decide) ?_
  refine x_aload_n dX12_allShots_1 0 rfl ?_
  refine x_getR fdX12_13 rfl dX12_allShots_2 f1.1 f1.2 f2 ?_
  refine x_iconst (v := 0) dX12_allShots_5 (by decide) ?_
  refine x_iald dX12_allShots_6 f3.1 f3.2 (by unfold vp_in; decide) ?_
  refine x_ishl dX12_allShots_7 ?_
  refine x_iconst (v := 1) dX12_allShots_8 (by decide) ?_
  refine x_isub dX12_allShots_9 ?_
  exact x_iret rfl dX12_allShots_10 (Nat.le_refl _) (Nat.le_refl _) (k1)
set_option maxRecDepth 8000 in
theorem qX12_isShot_0 {g : GG} {d : Nat} {M : MM} {P : Option Value → MM → Prop} {i1 : Int32} {la lb pa pb rl : Nat} (L : Lay M la lb pa pb rl)
    (k1 : i1 < 0 → P (some (.int 0)) M)
    (k2 : ¬ (i1 < 0) → (mi M 132 0) ≤ i1 → P (some (.int 0)) M)
    (k3 : ¬ (i1 < 0) → ¬ ((mi M 132 0) ≤ i1) → P (some (.int 1)) M) :
    E0 g YX12_isShot d 0 [(0, .ref 130), (1, .int i1)] [] M P := by
  have f1 : ob M 130 12 := L.s rfl (by decide)
  have f2 : mr M 130 10 = some 132 := L.r 127 rfl
  have f3 : ar M 132 1 4 := L.s rfl (by decide)
  refine x_iload_n dX12_isShot_0 1 rfl ?_
  refine x_if_lt 18 dX12_isShot_1 (by decide) (fun c1 => ?_) (fun c1 => ?_)
  · refine x_iconst (v := 0) dX12_isShot_18 (by decide) ?_
    exact x_zret rfl dX12_isShot_19 rfl (Nat.le_refl _) (Nat.le_refl _) (k1 c1)
  · refine x_iload_n dX12_isShot_4 1 rfl ?_
    refine x_aload_n dX12_isShot_5 0 rfl ?_
    refine x_getR fdX12_13 rfl dX12_isShot_6 f1.1 f1.2 f2 ?_
    refine x_iconst (v := 0) dX12_isShot_9 (by decide) ?_
    refine x_iald dX12_isShot_10 f3.1 f3.2 (by unfold vp_in; decide) ?_
    refine x_ic_ge 18 dX12_isShot_11 (by decide) (fun c2 => ?_) (fun c2 => ?_)
    · refine x_iconst (v := 0) dX12_isShot_18 (by decide) ?_
      exact x_zret rfl dX12_isShot_19 rfl (Nat.le_refl _) (Nat.le_refl _) (k2 c1 c2)
    · refine x_iconst (v := 1) dX12_isShot_14 (by decide) ?_
      refine x_goto 19 dX12_isShot_15 (by decide) ?_
      exact x_zret rfl dX12_isShot_19 rfl (Nat.le_refl _) (Nat.le_refl _) (k3 c1 c2)
set_option maxRecDepth 8000 in
theorem qX12_isHall_0 {g : GG} {d : Nat} {M : MM} {P : Option Value → MM → Prop} {i1 : Int32} {la lb pa pb rl : Nat} (L : Lay M la lb pa pb rl)
    (k1 : i1 < 0 → P (some (.int 0)) M)
    (k2 : ¬ (i1 < 0) → (mi M 132 1) ≤ i1 → P (some (.int 0)) M)
    (k3 : ¬ (i1 < 0) → ¬ ((mi M 132 1) ≤ i1) → P (some (.int 1)) M) :
    E0 g YX12_isHall d 0 [(0, .ref 130), (1, .int i1)] [] M P := by
  have f1 : ob M 130 12 := L.s rfl (by decide)
  have f2 : mr M 130 10 = some 132 := L.r 127 rfl
  have f3 : ar M 132 1 4 := L.s rfl (by decide)
  refine x_iload_n dX12_isHall_0 1 rfl ?_
  refine x_if_lt 18 dX12_isHall_1 (by decide) (fun c1 => ?_) (fun c1 => ?_)
  · refine x_iconst (v := 0) dX12_isHall_18 (by decide) ?_
    exact x_zret rfl dX12_isHall_19 rfl (Nat.le_refl _) (Nat.le_refl _) (k1 c1)
  · refine x_iload_n dX12_isHall_4 1 rfl ?_
    refine x_aload_n dX12_isHall_5 0 rfl ?_
    refine x_getR fdX12_13 rfl dX12_isHall_6 f1.1 f1.2 f2 ?_
    refine x_iconst (v := 1) dX12_isHall_9 (by decide) ?_
    refine x_iald dX12_isHall_10 f3.1 f3.2 (by unfold vp_in; decide) ?_
    refine x_ic_ge 18 dX12_isHall_11 (by decide) (fun c2 => ?_) (fun c2 => ?_)
    · refine x_iconst (v := 0) dX12_isHall_18 (by decide) ?_
      exact x_zret rfl dX12_isHall_19 rfl (Nat.le_refl _) (Nat.le_refl _) (k2 c1 c2)
    · refine x_iconst (v := 1) dX12_isHall_14 (by decide) ?_
      refine x_goto 19 dX12_isHall_15 (by decide) ?_
      exact x_zret rfl dX12_isHall_19 rfl (Nat.le_refl _) (Nat.le_refl _) (k3 c1 c2)
set_option maxRecDepth 8000 in
theorem qX12_minutesOf_0 {g : GG} {d : Nat} {M : MM} {P : Option Value → MM → Prop} {i1 : Int32}
    (k1 : E0 g YX12_minutesOf d 4 [(0, .ref 130), (1, .int i1), (2, .int 0), (3, .int 0)] [] M P) :
    E0 g YX12_minutesOf d 0 [(0, .ref 130), (1, .int i1)] [] M P := by
  refine x_iconst (v := 0) dX12_minutesOf_0 (by decide) ?_
  refine x_istore_n (lv1 := [(2, .int 0), (0, .ref 130), (1, .int i1)]) dX12_minutesOf_1 (by decide) rfl ?_
  refine x_iconst (v := 0) dX12_minutesOf_2 (by decide) ?_
  refine x_istore_n (lv1 := [(3, .int 0), (2, .int 0), (0, .ref 130), (1, .int i1)]) dX12_minutesOf_3 (by decide) rfl ?_
  exact EX.sub [2, 3, 1, 0] k1 rfl
set_option maxRecDepth 8000 in
theorem qX12_minutesOf_4 {g : GG} {d : Nat} {M : MM} {P : Option Value → MM → Prop} {i1 : Int32} {i2 : Int32} {i3 : Int32} {la lb pa pb rl : Nat} (L : Lay M la lb pa pb rl)
    (h1 : ¬ ((mi M 132 0) ≤ i3) → ((i1 >>> (i3 &&& 31)) &&& 1) = 1 → vp_in i3 20)
    (k1 : (mi M 132 0) ≤ i3 → P (some (.int i2)) M)
    (k2 : ¬ ((mi M 132 0) ≤ i3) → ¬ ((i1 >>> (i3 &&& 31)) &&& 1) = 1 → E0 g YX12_minutesOf d 4 [(0, .ref 130), (1, .int i1), (2, .int (i2 + 0)), (3, .int (i3 + 1))] [] M P)
    (k3 : ¬ ((mi M 132 0) ≤ i3) → ((i1 >>> (i3 &&& 31)) &&& 1) = 1 → E0 g YX12_minutesOf d 4 [(0, .ref 130), (1, .int i1), (2, .int (i2 + (mi M 136 (i3 : Int32).toNatClampNeg))), (3, .int (i3 + 1))] [] M P) :
    E0 g YX12_minutesOf d 4 [(0, .ref 130), (1, .int i1), (2, .int i2), (3, .int i3)] [] M P := by
  have f1 : ob M 130 12 := L.s rfl (by decide)
  have f2 : mr M 130 10 = some 132 := L.r 127 rfl
  have f3 : ar M 132 1 4 := L.s rfl (by decide)
  have f4 : mr M 130 14 = some 136 := L.r 131 rfl
  have f5 : ar M 136 1 20 := L.s rfl (by decide)
  refine x_iload_n dX12_minutesOf_4 3 rfl ?_
  refine x_aload_n dX12_minutesOf_5 0 rfl ?_
  refine x_getR fdX12_13 rfl dX12_minutesOf_6 f1.1 f1.2 f2 ?_
  refine x_iconst (v := 0) dX12_minutesOf_9 (by decide) ?_
  refine x_iald dX12_minutesOf_10 f3.1 f3.2 (by unfold vp_in; decide) ?_
  refine x_ic_ge 42 dX12_minutesOf_11 (by decide) (fun c1 => ?_) (fun c1 => ?_)
  · refine x_iload_n dX12_minutesOf_42 2 rfl ?_
    exact x_iret rfl dX12_minutesOf_43 (Nat.le_refl _) (Nat.le_refl _) (k1 c1)
  · refine x_iload_n dX12_minutesOf_14 2 rfl ?_
    refine x_iload_n dX12_minutesOf_15 1 rfl ?_
    refine x_iload_n dX12_minutesOf_16 3 rfl ?_
    refine x_ishr dX12_minutesOf_17 ?_
    refine x_iconst (v := 1) dX12_minutesOf_18 (by decide) ?_
    refine x_iand dX12_minutesOf_19 ?_
    refine x_iconst (v := 1) dX12_minutesOf_20 (by decide) ?_
    refine x_ic_ne 33 dX12_minutesOf_21 (by decide) (fun c2 => ?_) (fun c2 => ?_)
    · refine x_iconst (v := 0) dX12_minutesOf_33 (by decide) ?_
      refine x_iadd dX12_minutesOf_34 ?_
      refine x_istore_n (lv1 := [(2, .int (i2 + 0)), (0, .ref 130), (1, .int i1), (3, .int i3)]) dX12_minutesOf_35 (by decide) rfl ?_
      refine x_iinc (v := (i3 + 1)) (lv1 := [(3, .int (i3 + 1)), (2, .int (i2 + 0)), (0, .ref 130), (1, .int i1)]) dX12_minutesOf_36 3 rfl rfl (by decide) rfl ?_
      refine x_goto 4 dX12_minutesOf_39 (by decide) ?_
      exact EX.sub [2, 3, 1, 0] (k2 c1 c2) rfl
    · refine x_aload_n dX12_minutesOf_24 0 rfl ?_
      refine x_getR fdX12_26 rfl dX12_minutesOf_25 f1.1 f1.2 f4 ?_
      refine x_iload_n dX12_minutesOf_28 3 rfl ?_
      refine x_iald dX12_minutesOf_29 f5.1 f5.2 (h1 c1 c2) ?_
      refine x_goto 34 dX12_minutesOf_30 (by decide) ?_
      refine x_iadd dX12_minutesOf_34 ?_
      refine x_istore_n (lv1 := [(2, .int (i2 + (mi M 136 (i3 : Int32).toNatClampNeg))), (0, .ref 130), (1, .int i1), (3, .int i3)]) dX12_minutesOf_35 (by decide) rfl ?_
      refine x_iinc (v := (i3 + 1)) (lv1 := [(3, .int (i3 + 1)), (2, .int (i2 + (mi M 136 (i3 : Int32).toNatClampNeg))), (0, .ref 130), (1, .int i1)]) dX12_minutesOf_36 3 rfl rfl (by decide) rfl ?_
      refine x_goto 4 dX12_minutesOf_39 (by decide) ?_
      exact EX.sub [2, 3, 1, 0] (k3 c1 c2) rfl
set_option maxRecDepth 8000 in
theorem qX12_hates_0 {g : GG} {d : Nat} {M : MM} {P : Option Value → MM → Prop} {i1 : Int32} {i2 : Int32} {i3 : Int32} {i4 : Int32} {M1 : MM} {M2 : MM} {M3 : MM} {M4 : MM} {la lb pa pb rl : Nat} (L : Lay M la lb pa pb rl)
    (qM1 : M1 = wi M 153 1 (mi M 135 (i2 : Int32).toNatClampNeg))
    (qM2 : M2 = wi M1 153 2 (mi M1 136 (i2 : Int32).toNatClampNeg))
    (qM3 : M3 = wi M2 153 3 i3)
    (qM4 : M4 = wi M3 153 4 i4)
    (h1 : vp_in i2 20)
    (h2 : vp_in i2 20)
    (k1 : K0 g YX12_hates YX12_worked d 44 [.ref 130, .int i1] [] [] M4 P) :
    E0 g YX12_hates d 0 [(0, .ref 130), (1, .int i1), (2, .int i2), (3, .int i3), (4, .int i4)] [] M P := by
  have f1 : ob M 130 12 := L.s rfl (by decide)
  have f2 : mr M 130 32 = some 153 := L.r 148 rfl
  have f3 : mr M 130 13 = some 135 := L.r 130 rfl
  have f4 : ar M 135 1 20 := L.s rfl (by decide)
  have f5 : ar M 153 1 20 := L.s rfl (by decide)
  have f6 : mr M 130 14 = some 136 := L.r 131 rfl
  have f7 : ar M 136 1 20 := L.s rfl (by decide)
  subst qM1 qM2 qM3 qM4
  refine x_aload_n dX12_hates_0 0 rfl ?_
  refine x_getR fdX12_78 rfl dX12_hates_1 f1.1 f1.2 f2 ?_
  refine x_iconst (v := 1) dX12_hates_4 (by decide) ?_
  refine x_aload_n dX12_hates_5 0 rfl ?_
  refine x_getR fdX12_23 rfl dX12_hates_6 f1.1 f1.2 f3 ?_
  refine x_iload_n dX12_hates_9 2 rfl ?_
  refine x_iald dX12_hates_10 f4.1 f4.2 (h1) ?_
  refine x_iast dX12_hates_11 f5.1 f5.2 (by unfold vp_in; decide) ?_
  refine x_aload_n dX12_hates_12 0 rfl ?_
  refine x_getR fdX12_78 rfl dX12_hates_13 f1.1 f1.2 f2 ?_
  refine x_iconst (v := 2) dX12_hates_16 (by decide) ?_
  refine x_aload_n dX12_hates_17 0 rfl ?_
  refine x_getR fdX12_26 rfl dX12_hates_18 f1.1 f1.2 f6 ?_
  refine x_iload_n dX12_hates_21 2 rfl ?_
  refine x_iald dX12_hates_22 f7.1 f7.2 (h2) ?_
  refine x_iast dX12_hates_23 f5.1 f5.2 (by unfold vp_in; decide) ?_
  refine x_aload_n dX12_hates_24 0 rfl ?_
  refine x_getR fdX12_78 rfl dX12_hates_25 f1.1 f1.2 f2 ?_
  refine x_iconst (v := 3) dX12_hates_28 (by decide) ?_
  refine x_iload_n dX12_hates_29 3 rfl ?_
  refine x_iast dX12_hates_30 f5.1 f5.2 (by unfold vp_in; decide) ?_
  refine x_aload_n dX12_hates_31 0 rfl ?_
  refine x_getR fdX12_78 rfl dX12_hates_32 f1.1 f1.2 f2 ?_
  refine x_iconst (v := 4) dX12_hates_35 (by decide) ?_
  refine x_iload dX12_hates_36 4 rfl ?_
  refine x_iast dX12_hates_38 f5.1 f5.2 (by unfold vp_in; decide) ?_
  refine x_aload_n dX12_hates_39 0 rfl ?_
  refine x_iload_n dX12_hates_40 1 rfl ?_
  refine EX.sub [] (K0.v (As := [.int i1]) (st := []) cvX12_333 dX12_hates_41 rfl rfl f1 rfl (Nat.le_of_ble_eq_true rfl) (k1)) rfl
set_option maxRecDepth 8000 in
theorem qX12_hates_44 {g : GG} {d : Nat} {M : MM} {P : Option Value → MM → Prop} {s0 : Int32}
    (k1 : s0 = 0 → P (some (.int 0)) M)
    (k2 : ¬ (s0 = 0) → P (some (.int 1)) M) :
    E0 g YX12_hates d 44 [] [.int s0] M P := by
  refine x_if_eq 51 dX12_hates_44 (by decide) (fun c1 => ?_) (fun c1 => ?_)
  · refine x_iconst (v := 0) dX12_hates_51 (by decide) ?_
    exact x_zret rfl dX12_hates_52 rfl (Nat.le_refl _) (Nat.le_refl _) (k1 c1)
  · refine x_iconst (v := 1) dX12_hates_47 (by decide) ?_
    refine x_goto 52 dX12_hates_48 (by decide) ?_
    exact x_zret rfl dX12_hates_52 rfl (Nat.le_refl _) (Nat.le_refl _) (k2 c1)
set_option maxRecDepth 8000 in
theorem qX12_takesOut_0 {g : GG} {d : Nat} {M : MM} {P : Option Value → MM → Prop} {i1 : Int32} {i2 : Int32}
    (k1 : E0 g YX12_takesOut d 14 [(0, .ref 130), (1, .int i1), (2, .int i2), (3, .int 0), (4, .int 0), (5, .int (-1)), (6, .int 0), (7, .int 0)] [] M P) :
    E0 g YX12_takesOut d 0 [(0, .ref 130), (1, .int i1), (2, .int i2)] [] M P := by
  refine x_iconst (v := 0) dX12_takesOut_0 (by decide) ?_
  refine x_istore_n (lv1 := [(3, .int 0), (0, .ref 130), (1, .int i1), (2, .int i2)]) dX12_takesOut_1 (by decide) rfl ?_
  refine x_iconst (v := 0) dX12_takesOut_2 (by decide) ?_
  refine x_istore (lv1 := [(4, .int 0), (3, .int 0), (0, .ref 130), (1, .int i1), (2, .int i2)]) dX12_takesOut_3 (by decide) rfl ?_
  refine x_iconst (v := (-1)) dX12_takesOut_5 (by decide) ?_
  refine x_istore (lv1 := [(5, .int (-1)), (4, .int 0), (3, .int 0), (0, .ref 130), (1, .int i1), (2, .int i2)]) dX12_takesOut_6 (by decide) rfl ?_
  refine x_iconst (v := 0) dX12_takesOut_8 (by decide) ?_
  refine x_istore (lv1 := [(6, .int 0), (5, .int (-1)), (4, .int 0), (3, .int 0), (0, .ref 130), (1, .int i1), (2, .int i2)]) dX12_takesOut_9 (by decide) rfl ?_
  refine x_iconst (v := 0) dX12_takesOut_11 (by decide) ?_
  refine x_istore (lv1 := [(7, .int 0), (6, .int 0), (5, .int (-1)), (4, .int 0), (3, .int 0), (0, .ref 130), (1, .int i1), (2, .int i2)]) dX12_takesOut_12 (by decide) rfl ?_
  exact EX.sub [5, 6, 7, 4, 3, 2, 1, 0] k1 rfl
set_option maxRecDepth 8000 in
theorem qX12_takesOut_14 {g : GG} {d : Nat} {M : MM} {P : Option Value → MM → Prop} {i1 : Int32} {i2 : Int32} {i3 : Int32} {i4 : Int32} {i5 : Int32} {i6 : Int32} {i7 : Int32} {la lb pa pb rl : Nat} (L : Lay M la lb pa pb rl)
    (h1 : (mi M 132 0) ≤ i7 → vp_in i1 12)
    (h2 : ¬ ((mi M 132 0) ≤ i7) → ¬ ((i2 >>> (i7 &&& 31)) &&& 1) = 0 → 0 ≤ i5 → vp_in i5 20)
    (k1 : (mi M 132 0) ≤ i7 → ¬ (mi M 138 (i1 : Int32).toNatClampNeg) = 3 → P (some (.int i3)) M)
    (k2 : (mi M 132 0) ≤ i7 → (mi M 138 (i1 : Int32).toNatClampNeg) = 3 → i5 < 0 → P (some (.int i3)) M)
    (k3 : (mi M 132 0) ≤ i7 → (mi M 138 (i1 : Int32).toNatClampNeg) = 3 → ¬ (i5 < 0) → P (some (.int (i3 &&& (((1 : Int32) <<< (i5 &&& 31)) ^^^ (-1))))) M)
    (k4 : ¬ ((mi M 132 0) ≤ i7) → ¬ ((i2 >>> (i7 &&& 31)) &&& 1) = 0 → 0 ≤ i5 → K0 g YX12_takesOut YX12_hates d 63 [.ref 130, .int i1, .int i7, .int i4, .int (mi M 135 (i5 : Int32).toNatClampNeg)] [(0, .ref 130), (1, .int i1), (2, .int i2), (3, .int i3), (4, .int i4), (6, .int i6), (7, .int i7)] [] M P)
    (k5 : ¬ ((mi M 132 0) ≤ i7) → ¬ ((i2 >>> (i7 &&& 31)) &&& 1) = 0 → ¬ (0 ≤ i5) → K0 g YX12_takesOut YX12_hates d 63 [.ref 130, .int i1, .int i7, .int i4, .int 10] [(0, .ref 130), (1, .int i1), (2, .int i2), (3, .int i3), (4, .int i4), (6, .int i6), (7, .int i7)] [] M P)
    (k6 : ¬ ((mi M 132 0) ≤ i7) → ((i2 >>> (i7 &&& 31)) &&& 1) = 0 → E0 g YX12_takesOut d 14 [(0, .ref 130), (1, .int i1), (2, .int i2), (3, .int i3), (4, .int i4), (5, .int i5), (6, .int i6), (7, .int (i7 + 1))] [] M P) :
    E0 g YX12_takesOut d 14 [(0, .ref 130), (1, .int i1), (2, .int i2), (3, .int i3), (4, .int i4), (5, .int i5), (6, .int i6), (7, .int i7)] [] M P := by
  have f1 : ob M 130 12 := L.s rfl (by decide)
  have f2 : mr M 130 10 = some 132 := L.r 127 rfl
  have f3 : ar M 132 1 4 := L.s rfl (by decide)
  have f4 : mr M 130 16 = some 138 := L.r 133 rfl
  have f5 : ar M 138 1 12 := L.s rfl (by decide)
  have f6 : mr M 130 13 = some 135 := L.r 130 rfl
  have f7 : ar M 135 1 20 := L.s rfl (by decide)
  refine x_iload dX12_takesOut_14 7 rfl ?_
  refine x_aload_n dX12_takesOut_16 0 rfl ?_
  refine x_getR fdX12_13 rfl dX12_takesOut_17 f1.1 f1.2 f2 ?_
  refine x_iconst (v := 0) dX12_takesOut_20 (by decide) ?_
  refine x_iald dX12_takesOut_21 f3.1 f3.2 (by unfold vp_in; decide) ?_
  refine x_ic_ge 130 dX12_takesOut_22 (by decide) (fun c1 => ?_) (fun c1 => ?_)
  · refine x_aload_n dX12_takesOut_130 0 rfl ?_
    refine x_getR fdX12_32 rfl dX12_takesOut_131 f1.1 f1.2 f4 ?_
    refine x_iload_n dX12_takesOut_134 1 rfl ?_
    refine x_iald dX12_takesOut_135 f5.1 f5.2 (h1 c1) ?_
    refine x_iconst (v := 3) dX12_takesOut_136 (by decide) ?_
    refine x_ic_ne 156 dX12_takesOut_137 (by decide) (fun c2 => ?_) (fun c2 => ?_)
    · refine x_iload_n dX12_takesOut_156 3 rfl ?_
      exact x_iret rfl dX12_takesOut_157 (Nat.le_refl _) (Nat.le_refl _) (k1 c1 c2)
    · refine x_iload dX12_takesOut_140 5 rfl ?_
      refine x_if_lt 156 dX12_takesOut_142 (by decide) (fun c3 => ?_) (fun c3 => ?_)
      · refine x_iload_n dX12_takesOut_156 3 rfl ?_
        exact x_iret rfl dX12_takesOut_157 (Nat.le_refl _) (Nat.le_refl _) (k2 c1 c2 c3)
      · refine x_iload_n dX12_takesOut_145 3 rfl ?_
        refine x_iconst (v := 1) dX12_takesOut_146 (by decide) ?_
        refine x_iload dX12_takesOut_147 5 rfl ?_
        refine x_ishl dX12_takesOut_149 ?_
        refine x_iconst (v := (-1)) dX12_takesOut_150 (by decide) ?_
        refine x_ixor dX12_takesOut_151 ?_
        refine x_iand dX12_takesOut_152 ?_
        refine x_goto 157 dX12_takesOut_153 (by decide) ?_
        exact x_iret rfl dX12_takesOut_157 (Nat.le_refl _) (Nat.le_refl _) (k3 c1 c2 c3)
  · refine x_iload_n dX12_takesOut_25 2 rfl ?_
    refine x_iload dX12_takesOut_26 7 rfl ?_
    refine x_ishr dX12_takesOut_28 ?_
    refine x_iconst (v := 1) dX12_takesOut_29 (by decide) ?_
    refine x_iand dX12_takesOut_30 ?_
    refine x_if_ne 37 dX12_takesOut_31 (by decide) (fun c2 => ?_) (fun c2 => ?_)
    · refine x_aload_n dX12_takesOut_37 0 rfl ?_
      refine x_iload_n dX12_takesOut_38 1 rfl ?_
      refine x_iload dX12_takesOut_39 7 rfl ?_
      refine x_iload dX12_takesOut_41 4 rfl ?_
      refine x_iload dX12_takesOut_43 5 rfl ?_
      refine x_if_ge 53 dX12_takesOut_45 (by decide) (fun c3 => ?_) (fun c3 => ?_)
      · refine x_aload_n dX12_takesOut_53 0 rfl ?_
        refine x_getR fdX12_23 rfl dX12_takesOut_54 f1.1 f1.2 f6 ?_
        refine x_iload dX12_takesOut_57 5 rfl ?_
        refine x_iald dX12_takesOut_59 f7.1 f7.2 (h2 c1 c2 c3) ?_
        refine EX.sub [0, 1, 2, 3, 4, 6, 7] (K0.v (As := [.int i1, .int i7, .int i4, .int (mi M 135 (i5 : Int32).toNatClampNeg)]) (st := []) cvX12_336 dX12_takesOut_60 rfl rfl f1 rfl (Nat.le_of_ble_eq_true rfl) (k4 c1 c2 c3)) rfl
      · refine x_bipush (v := 10) dX12_takesOut_48 (by decide) ?_
        refine x_goto 60 dX12_takesOut_50 (by decide) ?_
        refine EX.sub [0, 1, 2, 3, 4, 6, 7] (K0.v (As := [.int i1, .int i7, .int i4, .int 10]) (st := []) cvX12_336 dX12_takesOut_60 rfl rfl f1 rfl (Nat.le_of_ble_eq_true rfl) (k5 c1 c2 c3)) rfl
    · refine x_goto 124 dX12_takesOut_34 (by decide) ?_
      refine x_iinc (v := (i7 + 1)) (lv1 := [(7, .int (i7 + 1)), (0, .ref 130), (1, .int i1), (2, .int i2), (3, .int i3), (4, .int i4), (5, .int i5), (6, .int i6)]) dX12_takesOut_124 7 rfl rfl (by decide) rfl ?_
      refine x_goto 14 dX12_takesOut_127 (by decide) ?_
      exact EX.sub [1, 2, 3, 4, 5, 6, 7, 0] (k6 c1 c2) rfl
set_option maxRecDepth 8000 in
theorem qX12_takesOut_63 {g : GG} {d : Nat} {M : MM} {P : Option Value → MM → Prop} {i1 : Int32} {i2 : Int32} {i3 : Int32} {i4 : Int32} {i6 : Int32} {i7 : Int32} {s0 : Int32} {la lb pa pb rl : Nat} (L : Lay M la lb pa pb rl)
    (h1 : i6 = 0 → ¬ (s0 = 0) → vp_in i1 12)
    (h2 : ¬ (i6 = 0) → vp_in i1 12)
    (h3 : ¬ (i6 = 0) → ¬ (mi M 138 (i1 : Int32).toNatClampNeg) = 2 → ¬ (s0 = 0) → vp_in i1 12)
    (h4 : ¬ (i6 = 0) → (mi M 138 (i1 : Int32).toNatClampNeg) = 2 → ¬ (s0 = 0) → vp_in i1 12)
    (k1 : i6 = 0 → s0 = 0 → E0 g YX12_takesOut d 14 [(0, .ref 130), (1, .int i1), (2, .int i2), (3, .int i3), (4, .int (i4 + 1)), (5, .int i7), (6, .int s0), (7, .int (i7 + 1))] [] M P)
    (k2 : i6 = 0 → ¬ (s0 = 0) → ¬ (mi M 138 (i1 : Int32).toNatClampNeg) = 1 → E0 g YX12_takesOut d 14 [(0, .ref 130), (1, .int i1), (2, .int i2), (3, .int (i3 ||| ((1 : Int32) <<< (i7 &&& 31)))), (4, .int (i4 + 1)), (5, .int i7), (6, .int s0), (7, .int (i7 + 1))] [] M P)
    (k3 : i6 = 0 → ¬ (s0 = 0) → (mi M 138 (i1 : Int32).toNatClampNeg) = 1 → ¬ i3 = 0 → E0 g YX12_takesOut d 14 [(0, .ref 130), (1, .int i1), (2, .int i2), (3, .int i3), (4, .int (i4 + 1)), (5, .int i7), (6, .int s0), (7, .int (i7 + 1))] [] M P)
    (k4 : i6 = 0 → ¬ (s0 = 0) → (mi M 138 (i1 : Int32).toNatClampNeg) = 1 → i3 = 0 → E0 g YX12_takesOut d 14 [(0, .ref 130), (1, .int i1), (2, .int i2), (3, .int (i3 ||| ((1 : Int32) <<< (i7 &&& 31)))), (4, .int (i4 + 1)), (5, .int i7), (6, .int s0), (7, .int (i7 + 1))] [] M P)
    (k5 : ¬ (i6 = 0) → ¬ (mi M 138 (i1 : Int32).toNatClampNeg) = 2 → s0 = 0 → E0 g YX12_takesOut d 14 [(0, .ref 130), (1, .int i1), (2, .int i2), (3, .int i3), (4, .int (i4 + 1)), (5, .int i7), (6, .int s0), (7, .int (i7 + 1))] [] M P)
    (k6 : ¬ (i6 = 0) → ¬ (mi M 138 (i1 : Int32).toNatClampNeg) = 2 → ¬ (s0 = 0) → ¬ (mi M 138 (i1 : Int32).toNatClampNeg) = 1 → E0 g YX12_takesOut d 14 [(0, .ref 130), (1, .int i1), (2, .int i2), (3, .int (i3 ||| ((1 : Int32) <<< (i7 &&& 31)))), (4, .int (i4 + 1)), (5, .int i7), (6, .int s0), (7, .int (i7 + 1))] [] M P)
    (k7 : ¬ (i6 = 0) → ¬ (mi M 138 (i1 : Int32).toNatClampNeg) = 2 → ¬ (s0 = 0) → (mi M 138 (i1 : Int32).toNatClampNeg) = 1 → ¬ i3 = 0 → E0 g YX12_takesOut d 14 [(0, .ref 130), (1, .int i1), (2, .int i2), (3, .int i3), (4, .int (i4 + 1)), (5, .int i7), (6, .int s0), (7, .int (i7 + 1))] [] M P)
    (k8 : ¬ (i6 = 0) → ¬ (mi M 138 (i1 : Int32).toNatClampNeg) = 2 → ¬ (s0 = 0) → (mi M 138 (i1 : Int32).toNatClampNeg) = 1 → i3 = 0 → E0 g YX12_takesOut d 14 [(0, .ref 130), (1, .int i1), (2, .int i2), (3, .int (i3 ||| ((1 : Int32) <<< (i7 &&& 31)))), (4, .int (i4 + 1)), (5, .int i7), (6, .int s0), (7, .int (i7 + 1))] [] M P)
    (k9 : ¬ (i6 = 0) → (mi M 138 (i1 : Int32).toNatClampNeg) = 2 → s0 = 0 → E0 g YX12_takesOut d 14 [(0, .ref 130), (1, .int i1), (2, .int i2), (3, .int (i3 ||| ((1 : Int32) <<< (i7 &&& 31)))), (4, .int (i4 + 1)), (5, .int i7), (6, .int s0), (7, .int (i7 + 1))] [] M P)
    (k10 : ¬ (i6 = 0) → (mi M 138 (i1 : Int32).toNatClampNeg) = 2 → ¬ (s0 = 0) → ¬ (mi M 138 (i1 : Int32).toNatClampNeg) = 1 → E0 g YX12_takesOut d 14 [(0, .ref 130), (1, .int i1), (2, .int i2), (3, .int ((i3 ||| ((1 : Int32) <<< (i7 &&& 31))) ||| ((1 : Int32) <<< (i7 &&& 31)))), (4, .int (i4 + 1)), (5, .int i7), (6, .int s0), (7, .int (i7 + 1))] [] M P)
    (k11 : ¬ (i6 = 0) → (mi M 138 (i1 : Int32).toNatClampNeg) = 2 → ¬ (s0 = 0) → (mi M 138 (i1 : Int32).toNatClampNeg) = 1 → ¬ (i3 ||| ((1 : Int32) <<< (i7 &&& 31))) = 0 → E0 g YX12_takesOut d 14 [(0, .ref 130), (1, .int i1), (2, .int i2), (3, .int (i3 ||| ((1 : Int32) <<< (i7 &&& 31)))), (4, .int (i4 + 1)), (5, .int i7), (6, .int s0), (7, .int (i7 + 1))] [] M P)
    (k12 : ¬ (i6 = 0) → (mi M 138 (i1 : Int32).toNatClampNeg) = 2 → ¬ (s0 = 0) → (mi M 138 (i1 : Int32).toNatClampNeg) = 1 → (i3 ||| ((1 : Int32) <<< (i7 &&& 31))) = 0 → E0 g YX12_takesOut d 14 [(0, .ref 130), (1, .int i1), (2, .int i2), (3, .int ((i3 ||| ((1 : Int32) <<< (i7 &&& 31))) ||| ((1 : Int32) <<< (i7 &&& 31)))), (4, .int (i4 + 1)), (5, .int i7), (6, .int s0), (7, .int (i7 + 1))] [] M P) :
    E0 g YX12_takesOut d 63 [(0, .ref 130), (1, .int i1), (2, .int i2), (3, .int i3), (4, .int i4), (6, .int i6), (7, .int i7)] [.int s0] M P := by
  have f1 : ob M 130 12 := L.s rfl (by decide)
  have f2 : mr M 130 16 = some 138 := L.r 133 rfl
  have f3 : ar M 138 1 12 := L.s rfl (by decide)
  refine x_istore (lv1 := [(8, .int s0), (0, .ref 130), (1, .int i1), (2, .int i2), (3, .int i3), (4, .int i4), (6, .int i6), (7, .int i7)]) dX12_takesOut_63 (by decide) rfl ?_
  refine x_iload dX12_takesOut_65 6 rfl ?_
  refine x_if_eq 87 dX12_takesOut_67 (by decide) (fun c1 => ?_) (fun c1 => ?_)
  · refine x_iload dX12_takesOut_87 0 rfl ?_
    refine x_if_eq 113 dX12_takesOut_89 (by decide) (fun c2 => ?_) (fun c2 => ?_)
    · refine x_iload dX12_takesOut_113 0 rfl ?_
      refine x_istore (lv1 := [(6, .int s0), (8, .int s0), (0, .ref 130), (1, .int i1), (2, .int i2), (3, .int i3), (4, .int i4), (7, .int i7)]) dX12_takesOut_115 (by decide) rfl ?_
      refine x_iinc (v := (i4 + 1)) (lv1 := [(4, .int (i4 + 1)), (6, .int s0), (8, .int s0), (0, .ref 130), (1, .int i1), (2, .int i2), (3, .int i3), (7, .int i7)]) dX12_takesOut_117 6 rfl rfl (by decide) rfl ?_
      refine x_iload dX12_takesOut_120 7 rfl ?_
      refine x_istore (lv1 := [(5, .int i7), (4, .int (i4 + 1)), (6, .int s0), (8, .int s0), (0, .ref 130), (1, .int i1), (2, .int i2), (3, .int i3), (7, .int i7)]) dX12_takesOut_122 (by decide) rfl ?_
      refine x_iinc (v := (i7 + 1)) (lv1 := [(7, .int (i7 + 1)), (5, .int i7), (4, .int (i4 + 1)), (6, .int s0), (8, .int s0), (0, .ref 130), (1, .int i1), (2, .int i2), (3, .int i3)]) dX12_takesOut_124 8 rfl rfl (by decide) rfl ?_
      refine x_goto 14 dX12_takesOut_127 (by decide) ?_
      exact EX.sub [5, 6, 7, 8, 2, 1, 3, 0] (k1 c1 c2) rfl
    · refine x_aload_n dX12_takesOut_92 1 rfl ?_
      refine x_getR fdX12_32 rfl dX12_takesOut_93 f1.1 f1.2 f2 ?_
      refine x_iload_n dX12_takesOut_96 2 rfl ?_
      refine x_iald dX12_takesOut_97 f3.1 f3.2 (h1 c1 c2) ?_
      refine x_iconst (v := 1) dX12_takesOut_98 (by decide) ?_
      refine x_ic_ne 106 dX12_takesOut_99 (by decide) (fun c3 => ?_) (fun c3 => ?_)
      · refine x_iload_n dX12_takesOut_106 4 rfl ?_
        refine x_iconst (v := 1) dX12_takesOut_107 (by decide) ?_
        refine x_iload dX12_takesOut_108 7 rfl ?_
        refine x_ishl dX12_takesOut_110 ?_
        refine x_ior dX12_takesOut_111 ?_
        refine x_istore_n (lv1 := [(3, .int (i3 ||| ((1 : Int32) <<< (i7 &&& 31)))), (8, .int s0), (0, .ref 130), (1, .int i1), (2, .int i2), (4, .int i4), (6, .int i6), (7, .int i7)]) dX12_takesOut_112 (by decide) rfl ?_
        refine x_iload dX12_takesOut_113 1 rfl ?_
        refine x_istore (lv1 := [(6, .int s0), (3, .int (i3 ||| ((1 : Int32) <<< (i7 &&& 31)))), (8, .int s0), (0, .ref 130), (1, .int i1), (2, .int i2), (4, .int i4), (7, .int i7)]) dX12_takesOut_115 (by decide) rfl ?_
        refine x_iinc (v := (i4 + 1)) (lv1 := [(4, .int (i4 + 1)), (6, .int s0), (3, .int (i3 ||| ((1 : Int32) <<< (i7 &&& 31)))), (8, .int s0), (0, .ref 130), (1, .int i1), (2, .int i2), (7, .int i7)]) dX12_takesOut_117 6 rfl rfl (by decide) rfl ?_
        refine x_iload dX12_takesOut_120 7 rfl ?_
        refine x_istore (lv1 := [(5, .int i7), (4, .int (i4 + 1)), (6, .int s0), (3, .int (i3 ||| ((1 : Int32) <<< (i7 &&& 31)))), (8, .int s0), (0, .ref 130), (1, .int i1), (2, .int i2), (7, .int i7)]) dX12_takesOut_122 (by decide) rfl ?_
        refine x_iinc (v := (i7 + 1)) (lv1 := [(7, .int (i7 + 1)), (5, .int i7), (4, .int (i4 + 1)), (6, .int s0), (3, .int (i3 ||| ((1 : Int32) <<< (i7 &&& 31)))), (8, .int s0), (0, .ref 130), (1, .int i1), (2, .int i2)]) dX12_takesOut_124 8 rfl rfl (by decide) rfl ?_
        refine x_goto 14 dX12_takesOut_127 (by decide) ?_
        exact EX.sub [6, 7, 8, 4, 2, 1, 3, 0] (k2 c1 c2 c3) rfl
      · refine x_iload_n dX12_takesOut_102 4 rfl ?_
        refine x_if_ne 113 dX12_takesOut_103 (by decide) (fun c4 => ?_) (fun c4 => ?_)
        · refine x_iload dX12_takesOut_113 0 rfl ?_
          refine x_istore (lv1 := [(6, .int s0), (8, .int s0), (0, .ref 130), (1, .int i1), (2, .int i2), (3, .int i3), (4, .int i4), (7, .int i7)]) dX12_takesOut_115 (by decide) rfl ?_
          refine x_iinc (v := (i4 + 1)) (lv1 := [(4, .int (i4 + 1)), (6, .int s0), (8, .int s0), (0, .ref 130), (1, .int i1), (2, .int i2), (3, .int i3), (7, .int i7)]) dX12_takesOut_117 6 rfl rfl (by decide) rfl ?_
          refine x_iload dX12_takesOut_120 7 rfl ?_
          refine x_istore (lv1 := [(5, .int i7), (4, .int (i4 + 1)), (6, .int s0), (8, .int s0), (0, .ref 130), (1, .int i1), (2, .int i2), (3, .int i3), (7, .int i7)]) dX12_takesOut_122 (by decide) rfl ?_
          refine x_iinc (v := (i7 + 1)) (lv1 := [(7, .int (i7 + 1)), (5, .int i7), (4, .int (i4 + 1)), (6, .int s0), (8, .int s0), (0, .ref 130), (1, .int i1), (2, .int i2), (3, .int i3)]) dX12_takesOut_124 8 rfl rfl (by decide) rfl ?_
          refine x_goto 14 dX12_takesOut_127 (by decide) ?_
          exact EX.sub [5, 6, 7, 8, 2, 1, 3, 0] (k3 c1 c2 c3 c4) rfl
        · refine x_iload_n dX12_takesOut_106 4 rfl ?_
          refine x_iconst (v := 1) dX12_takesOut_107 (by decide) ?_
          refine x_iload dX12_takesOut_108 7 rfl ?_
          refine x_ishl dX12_takesOut_110 ?_
          refine x_ior dX12_takesOut_111 ?_
          refine x_istore_n (lv1 := [(3, .int (i3 ||| ((1 : Int32) <<< (i7 &&& 31)))), (8, .int s0), (0, .ref 130), (1, .int i1), (2, .int i2), (4, .int i4), (6, .int i6), (7, .int i7)]) dX12_takesOut_112 (by decide) rfl ?_
          refine x_iload dX12_takesOut_113 1 rfl ?_
          refine x_istore (lv1 := [(6, .int s0), (3, .int (i3 ||| ((1 : Int32) <<< (i7 &&& 31)))), (8, .int s0), (0, .ref 130), (1, .int i1), (2, .int i2), (4, .int i4), (7, .int i7)]) dX12_takesOut_115 (by decide) rfl ?_
          refine x_iinc (v := (i4 + 1)) (lv1 := [(4, .int (i4 + 1)), (6, .int s0), (3, .int (i3 ||| ((1 : Int32) <<< (i7 &&& 31)))), (8, .int s0), (0, .ref 130), (1, .int i1), (2, .int i2), (7, .int i7)]) dX12_takesOut_117 6 rfl rfl (by decide) rfl ?_
          refine x_iload dX12_takesOut_120 7 rfl ?_
          refine x_istore (lv1 := [(5, .int i7), (4, .int (i4 + 1)), (6, .int s0), (3, .int (i3 ||| ((1 : Int32) <<< (i7 &&& 31)))), (8, .int s0), (0, .ref 130), (1, .int i1), (2, .int i2), (7, .int i7)]) dX12_takesOut_122 (by decide) rfl ?_
          refine x_iinc (v := (i7 + 1)) (lv1 := [(7, .int (i7 + 1)), (5, .int i7), (4, .int (i4 + 1)), (6, .int s0), (3, .int (i3 ||| ((1 : Int32) <<< (i7 &&& 31)))), (8, .int s0), (0, .ref 130), (1, .int i1), (2, .int i2)]) dX12_takesOut_124 8 rfl rfl (by decide) rfl ?_
          refine x_goto 14 dX12_takesOut_127 (by decide) ?_
          exact EX.sub [6, 7, 8, 4, 2, 1, 3, 0] (k4 c1 c2 c3 c4) rfl
  · refine x_aload_n dX12_takesOut_70 1 rfl ?_
    refine x_getR fdX12_32 rfl dX12_takesOut_71 f1.1 f1.2 f2 ?_
    refine x_iload_n dX12_takesOut_74 2 rfl ?_
    refine x_iald dX12_takesOut_75 f3.1 f3.2 (h2 c1) ?_
    refine x_iconst (v := 2) dX12_takesOut_76 (by decide) ?_
    refine x_ic_ne 87 dX12_takesOut_77 (by decide) (fun c2 => ?_) (fun c2 => ?_)
    · refine x_iload dX12_takesOut_87 0 rfl ?_
      refine x_if_eq 113 dX12_takesOut_89 (by decide) (fun c3 => ?_) (fun c3 => ?_)
      · refine x_iload dX12_takesOut_113 0 rfl ?_
        refine x_istore (lv1 := [(6, .int s0), (8, .int s0), (0, .ref 130), (1, .int i1), (2, .int i2), (3, .int i3), (4, .int i4), (7, .int i7)]) dX12_takesOut_115 (by decide) rfl ?_
        refine x_iinc (v := (i4 + 1)) (lv1 := [(4, .int (i4 + 1)), (6, .int s0), (8, .int s0), (0, .ref 130), (1, .int i1), (2, .int i2), (3, .int i3), (7, .int i7)]) dX12_takesOut_117 6 rfl rfl (by decide) rfl ?_
        refine x_iload dX12_takesOut_120 7 rfl ?_
        refine x_istore (lv1 := [(5, .int i7), (4, .int (i4 + 1)), (6, .int s0), (8, .int s0), (0, .ref 130), (1, .int i1), (2, .int i2), (3, .int i3), (7, .int i7)]) dX12_takesOut_122 (by decide) rfl ?_
        refine x_iinc (v := (i7 + 1)) (lv1 := [(7, .int (i7 + 1)), (5, .int i7), (4, .int (i4 + 1)), (6, .int s0), (8, .int s0), (0, .ref 130), (1, .int i1), (2, .int i2), (3, .int i3)]) dX12_takesOut_124 8 rfl rfl (by decide) rfl ?_
        refine x_goto 14 dX12_takesOut_127 (by decide) ?_
        exact EX.sub [5, 6, 7, 8, 2, 1, 3, 0] (k5 c1 c2 c3) rfl
      · refine x_aload_n dX12_takesOut_92 1 rfl ?_
        refine x_getR fdX12_32 rfl dX12_takesOut_93 f1.1 f1.2 f2 ?_
        refine x_iload_n dX12_takesOut_96 2 rfl ?_
        refine x_iald dX12_takesOut_97 f3.1 f3.2 (h3 c1 c2 c3) ?_
        refine x_iconst (v := 1) dX12_takesOut_98 (by decide) ?_
        refine x_ic_ne 106 dX12_takesOut_99 (by decide) (fun c4 => ?_) (fun c4 => ?_)
        · refine x_iload_n dX12_takesOut_106 4 rfl ?_
          refine x_iconst (v := 1) dX12_takesOut_107 (by decide) ?_
          refine x_iload dX12_takesOut_108 7 rfl ?_
          refine x_ishl dX12_takesOut_110 ?_
          refine x_ior dX12_takesOut_111 ?_
          refine x_istore_n (lv1 := [(3, .int (i3 ||| ((1 : Int32) <<< (i7 &&& 31)))), (8, .int s0), (0, .ref 130), (1, .int i1), (2, .int i2), (4, .int i4), (6, .int i6), (7, .int i7)]) dX12_takesOut_112 (by decide) rfl ?_
          refine x_iload dX12_takesOut_113 1 rfl ?_
          refine x_istore (lv1 := [(6, .int s0), (3, .int (i3 ||| ((1 : Int32) <<< (i7 &&& 31)))), (8, .int s0), (0, .ref 130), (1, .int i1), (2, .int i2), (4, .int i4), (7, .int i7)]) dX12_takesOut_115 (by decide) rfl ?_
          refine x_iinc (v := (i4 + 1)) (lv1 := [(4, .int (i4 + 1)), (6, .int s0), (3, .int (i3 ||| ((1 : Int32) <<< (i7 &&& 31)))), (8, .int s0), (0, .ref 130), (1, .int i1), (2, .int i2), (7, .int i7)]) dX12_takesOut_117 6 rfl rfl (by decide) rfl ?_
          refine x_iload dX12_takesOut_120 7 rfl ?_
          refine x_istore (lv1 := [(5, .int i7), (4, .int (i4 + 1)), (6, .int s0), (3, .int (i3 ||| ((1 : Int32) <<< (i7 &&& 31)))), (8, .int s0), (0, .ref 130), (1, .int i1), (2, .int i2), (7, .int i7)]) dX12_takesOut_122 (by decide) rfl ?_
          refine x_iinc (v := (i7 + 1)) (lv1 := [(7, .int (i7 + 1)), (5, .int i7), (4, .int (i4 + 1)), (6, .int s0), (3, .int (i3 ||| ((1 : Int32) <<< (i7 &&& 31)))), (8, .int s0), (0, .ref 130), (1, .int i1), (2, .int i2)]) dX12_takesOut_124 8 rfl rfl (by decide) rfl ?_
          refine x_goto 14 dX12_takesOut_127 (by decide) ?_
          exact EX.sub [6, 7, 8, 4, 2, 1, 3, 0] (k6 c1 c2 c3 c4) rfl
        · refine x_iload_n dX12_takesOut_102 4 rfl ?_
          refine x_if_ne 113 dX12_takesOut_103 (by decide) (fun c5 => ?_) (fun c5 => ?_)
          · refine x_iload dX12_takesOut_113 0 rfl ?_
            refine x_istore (lv1 := [(6, .int s0), (8, .int s0), (0, .ref 130), (1, .int i1), (2, .int i2), (3, .int i3), (4, .int i4), (7, .int i7)]) dX12_takesOut_115 (by decide) rfl ?_
            refine x_iinc (v := (i4 + 1)) (lv1 := [(4, .int (i4 + 1)), (6, .int s0), (8, .int s0), (0, .ref 130), (1, .int i1), (2, .int i2), (3, .int i3), (7, .int i7)]) dX12_takesOut_117 6 rfl rfl (by decide) rfl ?_
            refine x_iload dX12_takesOut_120 7 rfl ?_
            refine x_istore (lv1 := [(5, .int i7), (4, .int (i4 + 1)), (6, .int s0), (8, .int s0), (0, .ref 130), (1, .int i1), (2, .int i2), (3, .int i3), (7, .int i7)]) dX12_takesOut_122 (by decide) rfl ?_
            refine x_iinc (v := (i7 + 1)) (lv1 := [(7, .int (i7 + 1)), (5, .int i7), (4, .int (i4 + 1)), (6, .int s0), (8, .int s0), (0, .ref 130), (1, .int i1), (2, .int i2), (3, .int i3)]) dX12_takesOut_124 8 rfl rfl (by decide) rfl ?_
            refine x_goto 14 dX12_takesOut_127 (by decide) ?_
            exact EX.sub [5, 6, 7, 8, 2, 1, 3, 0] (k7 c1 c2 c3 c4 c5) rfl
          · refine x_iload_n dX12_takesOut_106 4 rfl ?_
            refine x_iconst (v := 1) dX12_takesOut_107 (by decide) ?_
            refine x_iload dX12_takesOut_108 7 rfl ?_
            refine x_ishl dX12_takesOut_110 ?_
            refine x_ior dX12_takesOut_111 ?_
            refine x_istore_n (lv1 := [(3, .int (i3 ||| ((1 : Int32) <<< (i7 &&& 31)))), (8, .int s0), (0, .ref 130), (1, .int i1), (2, .int i2), (4, .int i4), (6, .int i6), (7, .int i7)]) dX12_takesOut_112 (by decide) rfl ?_
            refine x_iload dX12_takesOut_113 1 rfl ?_
            refine x_istore (lv1 := [(6, .int s0), (3, .int (i3 ||| ((1 : Int32) <<< (i7 &&& 31)))), (8, .int s0), (0, .ref 130), (1, .int i1), (2, .int i2), (4, .int i4), (7, .int i7)]) dX12_takesOut_115 (by decide) rfl ?_
            refine x_iinc (v := (i4 + 1)) (lv1 := [(4, .int (i4 + 1)), (6, .int s0), (3, .int (i3 ||| ((1 : Int32) <<< (i7 &&& 31)))), (8, .int s0), (0, .ref 130), (1, .int i1), (2, .int i2), (7, .int i7)]) dX12_takesOut_117 6 rfl rfl (by decide) rfl ?_
            refine x_iload dX12_takesOut_120 7 rfl ?_
            refine x_istore (lv1 := [(5, .int i7), (4, .int (i4 + 1)), (6, .int s0), (3, .int (i3 ||| ((1 : Int32) <<< (i7 &&& 31)))), (8, .int s0), (0, .ref 130), (1, .int i1), (2, .int i2), (7, .int i7)]) dX12_takesOut_122 (by decide) rfl ?_
            refine x_iinc (v := (i7 + 1)) (lv1 := [(7, .int (i7 + 1)), (5, .int i7), (4, .int (i4 + 1)), (6, .int s0), (3, .int (i3 ||| ((1 : Int32) <<< (i7 &&& 31)))), (8, .int s0), (0, .ref 130), (1, .int i1), (2, .int i2)]) dX12_takesOut_124 8 rfl rfl (by decide) rfl ?_
            refine x_goto 14 dX12_takesOut_127 (by decide) ?_
            exact EX.sub [6, 7, 8, 4, 2, 1, 3, 0] (k8 c1 c2 c3 c4 c5) rfl
    · refine x_iload_n dX12_takesOut_80 4 rfl ?_
      refine x_iconst (v := 1) dX12_takesOut_81 (by decide) ?_
      refine x_iload dX12_takesOut_82 7 rfl ?_
      refine x_ishl dX12_takesOut_84 ?_
      refine x_ior dX12_takesOut_85 ?_
      refine x_istore_n (lv1 := [(3, .int (i3 ||| ((1 : Int32) <<< (i7 &&& 31)))), (8, .int s0), (0, .ref 130), (1, .int i1), (2, .int i2), (4, .int i4), (6, .int i6), (7, .int i7)]) dX12_takesOut_86 (by decide) rfl ?_
      refine x_iload dX12_takesOut_87 1 rfl ?_
      refine x_if_eq 113 dX12_takesOut_89 (by decide) (fun c3 => ?_) (fun c3 => ?_)
      · refine x_iload dX12_takesOut_113 1 rfl ?_
        refine x_istore (lv1 := [(6, .int s0), (3, .int (i3 ||| ((1 : Int32) <<< (i7 &&& 31)))), (8, .int s0), (0, .ref 130), (1, .int i1), (2, .int i2), (4, .int i4), (7, .int i7)]) dX12_takesOut_115 (by decide) rfl ?_
        refine x_iinc (v := (i4 + 1)) (lv1 := [(4, .int (i4 + 1)), (6, .int s0), (3, .int (i3 ||| ((1 : Int32) <<< (i7 &&& 31)))), (8, .int s0), (0, .ref 130), (1, .int i1), (2, .int i2), (7, .int i7)]) dX12_takesOut_117 6 rfl rfl (by decide) rfl ?_
        refine x_iload dX12_takesOut_120 7 rfl ?_
        refine x_istore (lv1 := [(5, .int i7), (4, .int (i4 + 1)), (6, .int s0), (3, .int (i3 ||| ((1 : Int32) <<< (i7 &&& 31)))), (8, .int s0), (0, .ref 130), (1, .int i1), (2, .int i2), (7, .int i7)]) dX12_takesOut_122 (by decide) rfl ?_
        refine x_iinc (v := (i7 + 1)) (lv1 := [(7, .int (i7 + 1)), (5, .int i7), (4, .int (i4 + 1)), (6, .int s0), (3, .int (i3 ||| ((1 : Int32) <<< (i7 &&& 31)))), (8, .int s0), (0, .ref 130), (1, .int i1), (2, .int i2)]) dX12_takesOut_124 8 rfl rfl (by decide) rfl ?_
        refine x_goto 14 dX12_takesOut_127 (by decide) ?_
        exact EX.sub [6, 7, 8, 4, 2, 1, 3, 0] (k9 c1 c2 c3) rfl
      · refine x_aload_n dX12_takesOut_92 2 rfl ?_
        refine x_getR fdX12_32 rfl dX12_takesOut_93 f1.1 f1.2 f2 ?_
        refine x_iload_n dX12_takesOut_96 3 rfl ?_
        refine x_iald dX12_takesOut_97 f3.1 f3.2 (h4 c1 c2 c3) ?_
        refine x_iconst (v := 1) dX12_takesOut_98 (by decide) ?_
        refine x_ic_ne 106 dX12_takesOut_99 (by decide) (fun c4 => ?_) (fun c4 => ?_)
        · refine x_iload_n dX12_takesOut_106 0 rfl ?_
          refine x_iconst (v := 1) dX12_takesOut_107 (by decide) ?_
          refine x_iload dX12_takesOut_108 7 rfl ?_
          refine x_ishl dX12_takesOut_110 ?_
          refine x_ior dX12_takesOut_111 ?_
          refine x_istore_n (lv1 := [(3, .int ((i3 ||| ((1 : Int32) <<< (i7 &&& 31))) ||| ((1 : Int32) <<< (i7 &&& 31)))), (8, .int s0), (0, .ref 130), (1, .int i1), (2, .int i2), (4, .int i4), (6, .int i6), (7, .int i7)]) dX12_takesOut_112 (by decide) rfl ?_
          refine x_iload dX12_takesOut_113 1 rfl ?_
          refine x_istore (lv1 := [(6, .int s0), (3, .int ((i3 ||| ((1 : Int32) <<< (i7 &&& 31))) ||| ((1 : Int32) <<< (i7 &&& 31)))), (8, .int s0), (0, .ref 130), (1, .int i1), (2, .int i2), (4, .int i4), (7, .int i7)]) dX12_takesOut_115 (by decide) rfl ?_
          refine x_iinc (v := (i4 + 1)) (lv1 := [(4, .int (i4 + 1)), (6, .int s0), (3, .int ((i3 ||| ((1 : Int32) <<< (i7 &&& 31))) ||| ((1 : Int32) <<< (i7 &&& 31)))), (8, .int s0), (0, .ref 130), (1, .int i1), (2, .int i2), (7, .int i7)]) dX12_takesOut_117 6 rfl rfl (by decide) rfl ?_
          refine x_iload dX12_takesOut_120 7 rfl ?_
          refine x_istore (lv1 := [(5, .int i7), (4, .int (i4 + 1)), (6, .int s0), (3, .int ((i3 ||| ((1 : Int32) <<< (i7 &&& 31))) ||| ((1 : Int32) <<< (i7 &&& 31)))), (8, .int s0), (0, .ref 130), (1, .int i1), (2, .int i2), (7, .int i7)]) dX12_takesOut_122 (by decide) rfl ?_
          refine x_iinc (v := (i7 + 1)) (lv1 := [(7, .int (i7 + 1)), (5, .int i7), (4, .int (i4 + 1)), (6, .int s0), (3, .int ((i3 ||| ((1 : Int32) <<< (i7 &&& 31))) ||| ((1 : Int32) <<< (i7 &&& 31)))), (8, .int s0), (0, .ref 130), (1, .int i1), (2, .int i2)]) dX12_takesOut_124 8 rfl rfl (by decide) rfl ?_
          refine x_goto 14 dX12_takesOut_127 (by decide) ?_
          exact EX.sub [6, 7, 8, 4, 2, 1, 3, 0] (k10 c1 c2 c3 c4) rfl
        · refine x_iload_n dX12_takesOut_102 0 rfl ?_
          refine x_if_ne 113 dX12_takesOut_103 (by decide) (fun c5 => ?_) (fun c5 => ?_)
          · refine x_iload dX12_takesOut_113 1 rfl ?_
            refine x_istore (lv1 := [(6, .int s0), (3, .int (i3 ||| ((1 : Int32) <<< (i7 &&& 31)))), (8, .int s0), (0, .ref 130), (1, .int i1), (2, .int i2), (4, .int i4), (7, .int i7)]) dX12_takesOut_115 (by decide) rfl ?_
            refine x_iinc (v := (i4 + 1)) (lv1 := [(4, .int (i4 + 1)), (6, .int s0), (3, .int (i3 ||| ((1 : Int32) <<< (i7 &&& 31)))), (8, .int s0), (0, .ref 130), (1, .int i1), (2, .int i2), (7, .int i7)]) dX12_takesOut_117 6 rfl rfl (by decide) rfl ?_
            refine x_iload dX12_takesOut_120 7 rfl ?_
            refine x_istore (lv1 := [(5, .int i7), (4, .int (i4 + 1)), (6, .int s0), (3, .int (i3 ||| ((1 : Int32) <<< (i7 &&& 31)))), (8, .int s0), (0, .ref 130), (1, .int i1), (2, .int i2), (7, .int i7)]) dX12_takesOut_122 (by decide) rfl ?_
            refine x_iinc (v := (i7 + 1)) (lv1 := [(7, .int (i7 + 1)), (5, .int i7), (4, .int (i4 + 1)), (6, .int s0), (3, .int (i3 ||| ((1 : Int32) <<< (i7 &&& 31)))), (8, .int s0), (0, .ref 130), (1, .int i1), (2, .int i2)]) dX12_takesOut_124 8 rfl rfl (by decide) rfl ?_
            refine x_goto 14 dX12_takesOut_127 (by decide) ?_
            exact EX.sub [6, 7, 8, 4, 2, 1, 3, 0] (k11 c1 c2 c3 c4 c5) rfl
          · refine x_iload_n dX12_takesOut_106 0 rfl ?_
            refine x_iconst (v := 1) dX12_takesOut_107 (by decide) ?_
            refine x_iload dX12_takesOut_108 7 rfl ?_
            refine x_ishl dX12_takesOut_110 ?_
            refine x_ior dX12_takesOut_111 ?_
            refine x_istore_n (lv1 := [(3, .int ((i3 ||| ((1 : Int32) <<< (i7 &&& 31))) ||| ((1 : Int32) <<< (i7 &&& 31)))), (8, .int s0), (0, .ref 130), (1, .int i1), (2, .int i2), (4, .int i4), (6, .int i6), (7, .int i7)]) dX12_takesOut_112 (by decide) rfl ?_
            refine x_iload dX12_takesOut_113 1 rfl ?_
            refine x_istore (lv1 := [(6, .int s0), (3, .int ((i3 ||| ((1 : Int32) <<< (i7 &&& 31))) ||| ((1 : Int32) <<< (i7 &&& 31)))), (8, .int s0), (0, .ref 130), (1, .int i1), (2, .int i2), (4, .int i4), (7, .int i7)]) dX12_takesOut_115 (by decide) rfl ?_
            refine x_iinc (v := (i4 + 1)) (lv1 := [(4, .int (i4 + 1)), (6, .int s0), (3, .int ((i3 ||| ((1 : Int32) <<< (i7 &&& 31))) ||| ((1 : Int32) <<< (i7 &&& 31)))), (8, .int s0), (0, .ref 130), (1, .int i1), (2, .int i2), (7, .int i7)]) dX12_takesOut_117 6 rfl rfl (by decide) rfl ?_
            refine x_iload dX12_takesOut_120 7 rfl ?_
            refine x_istore (lv1 := [(5, .int i7), (4, .int (i4 + 1)), (6, .int s0), (3, .int ((i3 ||| ((1 : Int32) <<< (i7 &&& 31))) ||| ((1 : Int32) <<< (i7 &&& 31)))), (8, .int s0), (0, .ref 130), (1, .int i1), (2, .int i2), (7, .int i7)]) dX12_takesOut_122 (by decide) rfl ?_
            refine x_iinc (v := (i7 + 1)) (lv1 := [(7, .int (i7 + 1)), (5, .int i7), (4, .int (i4 + 1)), (6, .int s0), (3, .int ((i3 ||| ((1 : Int32) <<< (i7 &&& 31))) ||| ((1 : Int32) <<< (i7 &&& 31)))), (8, .int s0), (0, .ref 130), (1, .int i1), (2, .int i2)]) dX12_takesOut_124 8 rfl rfl (by decide) rfl ?_
            refine x_goto 14 dX12_takesOut_127 (by decide) ?_
            exact EX.sub [6, 7, 8, 4, 2, 1, 3, 0] (k12 c1 c2 c3 c4 c5) rfl
set_option maxRecDepth 8000 in
theorem qX12_makesSense_0 {g : GG} {d : Nat} {M : MM} {P : Option Value → MM → Prop} {i1 : Int32}
    (k1 : E0 g YX12_makesSense d 2 [(0, .ref 130), (1, .int i1), (2, .int 0)] [] M P) :
    E0 g YX12_makesSense d 0 [(0, .ref 130), (1, .int i1)] [] M P := by
  refine x_iconst (v := 0) dX12_makesSense_0 (by decide) ?_
  refine x_istore_n (lv1 := [(2, .int 0), (0, .ref 130), (1, .int i1)]) dX12_makesSense_1 (by decide) rfl ?_
  exact EX.sub [1, 2, 0] k1 rfl
set_option maxRecDepth 8000 in
theorem qX12_makesSense_2 {g : GG} {d : Nat} {M : MM} {P : Option Value → MM → Prop} {i1 : Int32} {i2 : Int32} {la lb pa pb rl : Nat} (L : Lay M la lb pa pb rl)
    (h1 : ¬ ((mi M 132 0) ≤ i2) → ((i1 >>> (i2 &&& 31)) &&& 1) = 1 → vp_in i2 20)
    (k1 : (mi M 132 0) ≤ i2 → P (some (.int 1)) M)
    (k2 : ¬ ((mi M 132 0) ≤ i2) → ¬ ((i1 >>> (i2 &&& 31)) &&& 1) = 1 → E0 g YX12_makesSense d 2 [(0, .ref 130), (1, .int i1), (2, .int (i2 + 1))] [] M P)
    (k3 : ¬ ((mi M 132 0) ≤ i2) → ((i1 >>> (i2 &&& 31)) &&& 1) = 1 → ((mi M 137 (i2 : Int32).toNatClampNeg) &&& ((i1 &&& (((1 : Int32) <<< (i2 &&& 31)) - 1)) ^^^ (-1))) = 0 → E0 g YX12_makesSense d 2 [(0, .ref 130), (1, .int i1), (2, .int (i2 + 1))] [] M P)
    (k4 : ¬ ((mi M 132 0) ≤ i2) → ((i1 >>> (i2 &&& 31)) &&& 1) = 1 → ¬ (((mi M 137 (i2 : Int32).toNatClampNeg) &&& ((i1 &&& (((1 : Int32) <<< (i2 &&& 31)) - 1)) ^^^ (-1))) = 0) → P (some (.int 0)) M) :
    E0 g YX12_makesSense d 2 [(0, .ref 130), (1, .int i1), (2, .int i2)] [] M P := by
  have f1 : ob M 130 12 := L.s rfl (by decide)
  have f2 : mr M 130 10 = some 132 := L.r 127 rfl
  have f3 : ar M 132 1 4 := L.s rfl (by decide)
  have f4 : mr M 130 15 = some 137 := L.r 132 rfl
  have f5 : ar M 137 1 20 := L.s rfl (by decide)
  refine x_iload_n dX12_makesSense_2 2 rfl ?_
  refine x_aload_n dX12_makesSense_3 0 rfl ?_
  refine x_getR fdX12_13 rfl dX12_makesSense_4 f1.1 f1.2 f2 ?_
  refine x_iconst (v := 0) dX12_makesSense_7 (by decide) ?_
  refine x_iald dX12_makesSense_8 f3.1 f3.2 (by unfold vp_in; decide) ?_
  refine x_ic_ge 48 dX12_makesSense_9 (by decide) (fun c1 => ?_) (fun c1 => ?_)
  · refine x_iconst (v := 1) dX12_makesSense_48 (by decide) ?_
    exact x_zret rfl dX12_makesSense_49 rfl (Nat.le_refl _) (Nat.le_refl _) (k1 c1)
  · refine x_iload_n dX12_makesSense_12 1 rfl ?_
    refine x_iload_n dX12_makesSense_13 2 rfl ?_
    refine x_ishr dX12_makesSense_14 ?_
    refine x_iconst (v := 1) dX12_makesSense_15 (by decide) ?_
    refine x_iand dX12_makesSense_16 ?_
    refine x_iconst (v := 1) dX12_makesSense_17 (by decide) ?_
    refine x_ic_ne 42 dX12_makesSense_18 (by decide) (fun c2 => ?_) (fun c2 => ?_)
    · refine x_iinc (v := (i2 + 1)) (lv1 := [(2, .int (i2 + 1)), (0, .ref 130), (1, .int i1)]) dX12_makesSense_42 2 rfl rfl (by decide) rfl ?_
      refine x_goto 2 dX12_makesSense_45 (by decide) ?_
      exact EX.sub [1, 2, 0] (k2 c1 c2) rfl
    · refine x_aload_n dX12_makesSense_21 0 rfl ?_
      refine x_getR fdX12_29 rfl dX12_makesSense_22 f1.1 f1.2 f4 ?_
      refine x_iload_n dX12_makesSense_25 2 rfl ?_
      refine x_iald dX12_makesSense_26 f5.1 f5.2 (h1 c1 c2) ?_
      refine x_iload_n dX12_makesSense_27 1 rfl ?_
      refine x_iconst (v := 1) dX12_makesSense_28 (by decide) ?_
      refine x_iload_n dX12_makesSense_29 2 rfl ?_
      refine x_ishl dX12_makesSense_30 ?_
      refine x_iconst (v := 1) dX12_makesSense_31 (by decide) ?_
      refine x_isub dX12_makesSense_32 ?_
      refine x_iand dX12_makesSense_33 ?_
      refine x_iconst (v := (-1)) dX12_makesSense_34 (by decide) ?_
      refine x_ixor dX12_makesSense_35 ?_
      refine x_iand dX12_makesSense_36 ?_
      refine x_if_eq 42 dX12_makesSense_37 (by decide) (fun c3 => ?_) (fun c3 => ?_)
      · refine x_iinc (v := (i2 + 1)) (lv1 := [(2, .int (i2 + 1)), (0, .ref 130), (1, .int i1)]) dX12_makesSense_42 2 rfl rfl (by decide) rfl ?_
        refine x_goto 2 dX12_makesSense_45 (by decide) ?_
        exact EX.sub [1, 2, 0] (k3 c1 c2 c3) rfl
      · refine x_iconst (v := 0) dX12_makesSense_40 (by decide) ?_
        exact x_zret rfl dX12_makesSense_41 rfl (Nat.le_refl _) (Nat.le_refl _) (k4 c1 c2 c3)
set_option maxRecDepth 8000 in
theorem qX12_drawerOf_0 {g : GG} {d : Nat} {M : MM} {P : Option Value → MM → Prop} {i1 : Int32}
    (k1 : E0 g YX12_drawerOf d 4 [(0, .ref 130), (1, .int i1), (2, .int 0), (3, .int 0)] [] M P) :
    E0 g YX12_drawerOf d 0 [(0, .ref 130), (1, .int i1)] [] M P := by
  refine x_iconst (v := 0) dX12_drawerOf_0 (by decide) ?_
  refine x_istore_n (lv1 := [(2, .int 0), (0, .ref 130), (1, .int i1)]) dX12_drawerOf_1 (by decide) rfl ?_
  refine x_iconst (v := 0) dX12_drawerOf_2 (by decide) ?_
  refine x_istore_n (lv1 := [(3, .int 0), (2, .int 0), (0, .ref 130), (1, .int i1)]) dX12_drawerOf_3 (by decide) rfl ?_
  exact EX.sub [2, 3, 1, 0] k1 rfl
set_option maxRecDepth 8000 in
theorem qX12_drawerOf_4 {g : GG} {d : Nat} {M : MM} {P : Option Value → MM → Prop} {i1 : Int32} {i2 : Int32} {i3 : Int32} {la lb pa pb rl : Nat} (L : Lay M la lb pa pb rl)
    (h1 : ¬ ((mi M 132 0) ≤ i3) → vp_in (9 + i3) 19)
    (k1 : (mi M 132 0) ≤ i3 → P (some (.int i2)) M)
    (k2 : ¬ ((mi M 132 0) ≤ i3) → ¬ (mi M 162 ((9 + i3) : Int32).toNatClampNeg) = (i1 + 1) → E0 g YX12_drawerOf d 4 [(0, .ref 130), (1, .int i1), (2, .int (i2 ||| 0)), (3, .int (i3 + 1))] [] M P)
    (k3 : ¬ ((mi M 132 0) ≤ i3) → (mi M 162 ((9 + i3) : Int32).toNatClampNeg) = (i1 + 1) → E0 g YX12_drawerOf d 4 [(0, .ref 130), (1, .int i1), (2, .int (i2 ||| ((1 : Int32) <<< (i3 &&& 31)))), (3, .int (i3 + 1))] [] M P) :
    E0 g YX12_drawerOf d 4 [(0, .ref 130), (1, .int i1), (2, .int i2), (3, .int i3)] [] M P := by
  have f1 : ob M 130 12 := L.s rfl (by decide)
  have f2 : mr M 130 10 = some 132 := L.r 127 rfl
  have f3 : ar M 132 1 4 := L.s rfl (by decide)
  have f4 : mr M 130 43 = some 162 := L.r 157 rfl
  have f5 : ar M 162 1 19 := L.s rfl (by decide)
  refine x_iload_n dX12_drawerOf_4 3 rfl ?_
  refine x_aload_n dX12_drawerOf_5 0 rfl ?_
  refine x_getR fdX12_13 rfl dX12_drawerOf_6 f1.1 f1.2 f2 ?_
  refine x_iconst (v := 0) dX12_drawerOf_9 (by decide) ?_
  refine x_iald dX12_drawerOf_10 f3.1 f3.2 (by unfold vp_in; decide) ?_
  refine x_ic_ge 45 dX12_drawerOf_11 (by decide) (fun c1 => ?_) (fun c1 => ?_)
  · refine x_iload_n dX12_drawerOf_45 2 rfl ?_
    exact x_iret rfl dX12_drawerOf_46 (Nat.le_refl _) (Nat.le_refl _) (k1 c1)
  · refine x_iload_n dX12_drawerOf_14 2 rfl ?_
    refine x_aload_n dX12_drawerOf_15 0 rfl ?_
    refine x_getR fdX12_105 rfl dX12_drawerOf_16 f1.1 f1.2 f4 ?_
    refine x_bipush (v := 9) dX12_drawerOf_19 (by decide) ?_
    refine x_iload_n dX12_drawerOf_21 3 rfl ?_
    refine x_iadd dX12_drawerOf_22 ?_
    refine x_iald dX12_drawerOf_23 f5.1 f5.2 (h1 c1) ?_
    refine x_iload_n dX12_drawerOf_24 1 rfl ?_
    refine x_iconst (v := 1) dX12_drawerOf_25 (by decide) ?_
    refine x_iadd dX12_drawerOf_26 ?_
    refine x_ic_ne 36 dX12_drawerOf_27 (by decide) (fun c2 => ?_) (fun c2 => ?_)
    · refine x_iconst (v := 0) dX12_drawerOf_36 (by decide) ?_
      refine x_ior dX12_drawerOf_37 ?_
      refine x_istore_n (lv1 := [(2, .int (i2 ||| 0)), (0, .ref 130), (1, .int i1), (3, .int i3)]) dX12_drawerOf_38 (by decide) rfl ?_
      refine x_iinc (v := (i3 + 1)) (lv1 := [(3, .int (i3 + 1)), (2, .int (i2 ||| 0)), (0, .ref 130), (1, .int i1)]) dX12_drawerOf_39 3 rfl rfl (by decide) rfl ?_
      refine x_goto 4 dX12_drawerOf_42 (by decide) ?_
      exact EX.sub [2, 3, 1, 0] (k2 c1 c2) rfl
    · refine x_iconst (v := 1) dX12_drawerOf_30 (by decide) ?_
      refine x_iload_n dX12_drawerOf_31 3 rfl ?_
      refine x_ishl dX12_drawerOf_32 ?_
      refine x_goto 37 dX12_drawerOf_33 (by decide) ?_
      refine x_ior dX12_drawerOf_37 ?_
      refine x_istore_n (lv1 := [(2, .int (i2 ||| ((1 : Int32) <<< (i3 &&& 31)))), (0, .ref 130), (1, .int i1), (3, .int i3)]) dX12_drawerOf_38 (by decide) rfl ?_
      refine x_iinc (v := (i3 + 1)) (lv1 := [(3, .int (i3 + 1)), (2, .int (i2 ||| ((1 : Int32) <<< (i3 &&& 31)))), (0, .ref 130), (1, .int i1)]) dX12_drawerOf_39 3 rfl rfl (by decide) rfl ?_
      refine x_goto 4 dX12_drawerOf_42 (by decide) ?_
      exact EX.sub [2, 3, 1, 0] (k3 c1 c2) rfl
set_option maxRecDepth 8000 in
theorem qX12_inDrawers_0 {g : GG} {d : Nat} {M : MM} {P : Option Value → MM → Prop} 
    (k1 : E0 g YX12_inDrawers d 4 [(0, .ref 130), (1, .int 0), (2, .int 0)] [] M P) :
    E0 g YX12_inDrawers d 0 [(0, .ref 130)] [] M P := by
  refine x_iconst (v := 0) dX12_inDrawers_0 (by decide) ?_
  refine x_istore_n (lv1 := [(1, .int 0), (0, .ref 130)]) dX12_inDrawers_1 (by decide) rfl ?_
  refine x_iconst (v := 0) dX12_inDrawers_2 (by decide) ?_
  refine x_istore_n (lv1 := [(2, .int 0), (1, .int 0), (0, .ref 130)]) dX12_inDrawers_3 (by decide) rfl ?_
  exact EX.sub [2, 1, 0] k1 rfl
set_option maxRecDepth 8000 in
theorem qX12_inDrawers_4 {g : GG} {d : Nat} {M : MM} {P : Option Value → MM → Prop} {i1 : Int32} {i2 : Int32} {la lb pa pb rl : Nat} (L : Lay M la lb pa pb rl)
    (h1 : ¬ ((mi M 132 0) ≤ i2) → vp_in (9 + i2) 19)
    (k1 : (mi M 132 0) ≤ i2 → P (some (.int i1)) M)
    (k2 : ¬ ((mi M 132 0) ≤ i2) → (mi M 162 ((9 + i2) : Int32).toNatClampNeg) ≤ 0 → E0 g YX12_inDrawers d 4 [(0, .ref 130), (1, .int (i1 ||| 0)), (2, .int (i2 + 1))] [] M P)
    (k3 : ¬ ((mi M 132 0) ≤ i2) → ¬ ((mi M 162 ((9 + i2) : Int32).toNatClampNeg) ≤ 0) → E0 g YX12_inDrawers d 4 [(0, .ref 130), (1, .int (i1 ||| ((1 : Int32) <<< (i2 &&& 31)))), (2, .int (i2 + 1))] [] M P) :
    E0 g YX12_inDrawers d 4 [(0, .ref 130), (1, .int i1), (2, .int i2)] [] M P := by
  have f1 : ob M 130 12 := L.s rfl (by decide)
  have f2 : mr M 130 10 = some 132 := L.r 127 rfl
  have f3 : ar M 132 1 4 := L.s rfl (by decide)
  have f4 : mr M 130 43 = some 162 := L.r 157 rfl
  have f5 : ar M 162 1 19 := L.s rfl (by decide)
  refine x_iload_n dX12_inDrawers_4 2 rfl ?_
  refine x_aload_n dX12_inDrawers_5 0 rfl ?_
  refine x_getR fdX12_13 rfl dX12_inDrawers_6 f1.1 f1.2 f2 ?_
  refine x_iconst (v := 0) dX12_inDrawers_9 (by decide) ?_
  refine x_iald dX12_inDrawers_10 f3.1 f3.2 (by unfold vp_in; decide) ?_
  refine x_ic_ge 42 dX12_inDrawers_11 (by decide) (fun c1 => ?_) (fun c1 => ?_)
  · refine x_iload_n dX12_inDrawers_42 1 rfl ?_
    exact x_iret rfl dX12_inDrawers_43 (Nat.le_refl _) (Nat.le_refl _) (k1 c1)
  · refine x_iload_n dX12_inDrawers_14 1 rfl ?_
    refine x_aload_n dX12_inDrawers_15 0 rfl ?_
    refine x_getR fdX12_105 rfl dX12_inDrawers_16 f1.1 f1.2 f4 ?_
    refine x_bipush (v := 9) dX12_inDrawers_19 (by decide) ?_
    refine x_iload_n dX12_inDrawers_21 2 rfl ?_
    refine x_iadd dX12_inDrawers_22 ?_
    refine x_iald dX12_inDrawers_23 f5.1 f5.2 (h1 c1) ?_
    refine x_if_le 33 dX12_inDrawers_24 (by decide) (fun c2 => ?_) (fun c2 => ?_)
    · refine x_iconst (v := 0) dX12_inDrawers_33 (by decide) ?_
      refine x_ior dX12_inDrawers_34 ?_
      refine x_istore_n (lv1 := [(1, .int (i1 ||| 0)), (0, .ref 130), (2, .int i2)]) dX12_inDrawers_35 (by decide) rfl ?_
      refine x_iinc (v := (i2 + 1)) (lv1 := [(2, .int (i2 + 1)), (1, .int (i1 ||| 0)), (0, .ref 130)]) dX12_inDrawers_36 2 rfl rfl (by decide) rfl ?_
      refine x_goto 4 dX12_inDrawers_39 (by decide) ?_
      exact EX.sub [2, 1, 0] (k2 c1 c2) rfl
    · refine x_iconst (v := 1) dX12_inDrawers_27 (by decide) ?_
      refine x_iload_n dX12_inDrawers_28 2 rfl ?_
      refine x_ishl dX12_inDrawers_29 ?_
      refine x_goto 34 dX12_inDrawers_30 (by decide) ?_
      refine x_ior dX12_inDrawers_34 ?_
      refine x_istore_n (lv1 := [(1, .int (i1 ||| ((1 : Int32) <<< (i2 &&& 31)))), (0, .ref 130), (2, .int i2)]) dX12_inDrawers_35 (by decide) rfl ?_
      refine x_iinc (v := (i2 + 1)) (lv1 := [(2, .int (i2 + 1)), (1, .int (i1 ||| ((1 : Int32) <<< (i2 &&& 31)))), (0, .ref 130)]) dX12_inDrawers_36 2 rfl rfl (by decide) rfl ?_
      refine x_goto 4 dX12_inDrawers_39 (by decide) ?_
      exact EX.sub [2, 1, 0] (k3 c1 c2) rfl
set_option maxRecDepth 8000 in
theorem qX12_cuts_0 {g : GG} {d : Nat} {M : MM} {P : Option Value → MM → Prop} {i1 : Int32} {la lb pa pb rl : Nat} (L : Lay M la lb pa pb rl)
    (k1 : K0 g YX12_cuts YX12_takesOut d 11 [.ref 130, .int i1, .int (mi M 162 0)] [(0, .ref 130), (1, .int i1)] [] M P) :
    E0 g YX12_cuts d 0 [(0, .ref 130), (1, .int i1)] [] M P := by
  have f1 : ob M 130 12 := L.s rfl (by decide)
  have f2 : mr M 130 43 = some 162 := L.r 157 rfl
  have f3 : ar M 162 1 19 := L.s rfl (by decide)
  refine x_aload_n dX12_cuts_0 0 rfl ?_
  refine x_iload_n dX12_cuts_1 1 rfl ?_
  refine x_aload_n dX12_cuts_2 0 rfl ?_
  refine x_getR fdX12_105 rfl dX12_cuts_3 f1.1 f1.2 f2 ?_
  refine x_iconst (v := 0) dX12_cuts_6 (by decide) ?_
  refine x_iald dX12_cuts_7 f3.1 f3.2 (by unfold vp_in; decide) ?_
  refine EX.sub [0, 1] (K0.v (As := [.int i1, .int (mi M 162 0)]) (st := []) cvX12_340 dX12_cuts_8 rfl rfl f1 rfl (Nat.le_of_ble_eq_true rfl) (k1)) rfl
set_option maxRecDepth 8000 in
theorem qX12_cuts_11 {g : GG} {d : Nat} {M : MM} {P : Option Value → MM → Prop} {i1 : Int32} {s0 : Int32} {M1 : MM} {la lb pa pb rl : Nat} (L : Lay M la lb pa pb rl)
    (qM1 : M1 = wi M 162 0 ((mi M 162 0) &&& (s0 ^^^ (-1))))
    (k1 : E0 g YX12_cuts d 26 [(0, .ref 130), (1, .int i1), (2, .int s0), (3, .int 0)] [] M1 P) :
    E0 g YX12_cuts d 11 [(0, .ref 130), (1, .int i1)] [.int s0] M P := by
  have f1 : ob M 130 12 := L.s rfl (by decide)
  have f2 : mr M 130 43 = some 162 := L.r 157 rfl
  have f3 : ar M 162 1 19 := L.s rfl (by decide)
  subst qM1
  refine x_istore_n (lv1 := [(2, .int s0), (0, .ref 130), (1, .int i1)]) dX12_cuts_11 (by decide) rfl ?_
  refine x_aload_n dX12_cuts_12 1 rfl ?_
  refine x_getR fdX12_105 rfl dX12_cuts_13 f1.1 f1.2 f2 ?_
  refine x_iconst (v := 0) dX12_cuts_16 (by decide) ?_
  refine x_dup2 dX12_cuts_17 rfl rfl ?_
  refine x_iald dX12_cuts_18 f3.1 f3.2 (by unfold vp_in; decide) ?_
  refine x_iload_n dX12_cuts_19 0 rfl ?_
  refine x_iconst (v := (-1)) dX12_cuts_20 (by decide) ?_
  refine x_ixor dX12_cuts_21 ?_
  refine x_iand dX12_cuts_22 ?_
  refine x_iast dX12_cuts_23 f3.1 f3.2 (by unfold vp_in; decide) ?_
  refine x_iconst (v := 0) dX12_cuts_24 (by decide) ?_
  refine x_istore_n (lv1 := [(3, .int 0), (2, .int s0), (0, .ref 130), (1, .int i1)]) dX12_cuts_25 (by decide) rfl ?_
  exact EX.sub [2, 3, 1, 0] k1 rfl
set_option maxRecDepth 8000 in
theorem qX12_cuts_26 {g : GG} {d : Nat} {M : MM} {P : Option Value → MM → Prop} {i1 : Int32} {i2 : Int32} {i3 : Int32} {M1 : MM} {la lb pa pb rl : Nat} (L : Lay M la lb pa pb rl)
    (qM1 : M1 = wi M 162 ((9 + i3) : Int32).toNatClampNeg (i1 + 1))
    (h1 : ¬ ((mi M 132 0) ≤ i3) → ((i2 >>> (i3 &&& 31)) &&& 1) = 1 → vp_in (9 + i3) 19)
    (k1 : (mi M 132 0) ≤ i3 → P none M)
    (k2 : ¬ ((mi M 132 0) ≤ i3) → ¬ ((i2 >>> (i3 &&& 31)) &&& 1) = 1 → E0 g YX12_cuts d 26 [(0, .ref 130), (1, .int i1), (2, .int i2), (3, .int (i3 + 1))] [] M P)
    (k3 : ¬ ((mi M 132 0) ≤ i3) → ((i2 >>> (i3 &&& 31)) &&& 1) = 1 → E0 g YX12_cuts d 26 [(0, .ref 130), (1, .int i1), (2, .int i2), (3, .int (i3 + 1))] [] M1 P) :
    E0 g YX12_cuts d 26 [(0, .ref 130), (1, .int i1), (2, .int i2), (3, .int i3)] [] M P := by
  have f1 : ob M 130 12 := L.s rfl (by decide)
  have f2 : mr M 130 10 = some 132 := L.r 127 rfl
  have f3 : ar M 132 1 4 := L.s rfl (by decide)
  have f4 : mr M 130 43 = some 162 := L.r 157 rfl
  have f5 : ar M 162 1 19 := L.s rfl (by decide)
  subst qM1
  refine x_iload_n dX12_cuts_26 3 rfl ?_
  refine x_aload_n dX12_cuts_27 0 rfl ?_
  refine x_getR fdX12_13 rfl dX12_cuts_28 f1.1 f1.2 f2 ?_
  refine x_iconst (v := 0) dX12_cuts_31 (by decide) ?_
  refine x_iald dX12_cuts_32 f3.1 f3.2 (by unfold vp_in; decide) ?_
  refine x_ic_ge 63 dX12_cuts_33 (by decide) (fun c1 => ?_) (fun c1 => ?_)
  · exact x_vret rfl dX12_cuts_63 (Nat.le_refl _) (Nat.le_refl _) (k1 c1)
  · refine x_iload_n dX12_cuts_36 2 rfl ?_
    refine x_iload_n dX12_cuts_37 3 rfl ?_
    refine x_ishr dX12_cuts_38 ?_
    refine x_iconst (v := 1) dX12_cuts_39 (by decide) ?_
    refine x_iand dX12_cuts_40 ?_
    refine x_iconst (v := 1) dX12_cuts_41 (by decide) ?_
    refine x_ic_ne 57 dX12_cuts_42 (by decide) (fun c2 => ?_) (fun c2 => ?_)
    · refine x_iinc (v := (i3 + 1)) (lv1 := [(3, .int (i3 + 1)), (0, .ref 130), (1, .int i1), (2, .int i2)]) dX12_cuts_57 3 rfl rfl (by decide) rfl ?_
      refine x_goto 26 dX12_cuts_60 (by decide) ?_
      exact EX.sub [1, 2, 3, 0] (k2 c1 c2) rfl
    · refine x_aload_n dX12_cuts_45 0 rfl ?_
      refine x_getR fdX12_105 rfl dX12_cuts_46 f1.1 f1.2 f4 ?_
      refine x_bipush (v := 9) dX12_cuts_49 (by decide) ?_
      refine x_iload_n dX12_cuts_51 3 rfl ?_
      refine x_iadd dX12_cuts_52 ?_
      refine x_iload_n dX12_cuts_53 1 rfl ?_
      refine x_iconst (v := 1) dX12_cuts_54 (by decide) ?_
      refine x_iadd dX12_cuts_55 ?_
      refine x_iast dX12_cuts_56 f5.1 f5.2 (h1 c1 c2) ?_
      refine x_iinc (v := (i3 + 1)) (lv1 := [(3, .int (i3 + 1)), (0, .ref 130), (1, .int i1), (2, .int i2)]) dX12_cuts_57 3 rfl rfl (by decide) rfl ?_
      refine x_goto 26 dX12_cuts_60 (by decide) ?_
      exact EX.sub [1, 2, 3, 0] (k3 c1 c2) rfl
set_option maxRecDepth 8000 in
theorem qX12_shows_0 {g : GG} {d : Nat} {M : MM} {P : Option Value → MM → Prop}  {la lb pa pb rl : Nat} (L : Lay M la lb pa pb rl)
    (h1 : vp_in (3 + (mi M 162 1)) 19)
    (k1 : K0 g YX12_shows YX12_cuts d 17 [.ref 130, .int (mi M 162 ((3 + (mi M 162 1)) : Int32).toNatClampNeg)] [(0, .ref 130)] [] M P) :
    E0 g YX12_shows d 0 [(0, .ref 130)] [] M P := by
  have f1 : ob M 130 12 := L.s rfl (by decide)
  have f2 : mr M 130 43 = some 162 := L.r 157 rfl
  have f3 : ar M 162 1 19 := L.s rfl (by decide)
  refine x_aload_n dX12_shows_0 0 rfl ?_
  refine x_aload_n dX12_shows_1 0 rfl ?_
  refine x_getR fdX12_105 rfl dX12_shows_2 f1.1 f1.2 f2 ?_
  refine x_iconst (v := 3) dX12_shows_5 (by decide) ?_
  refine x_aload_n dX12_shows_6 0 rfl ?_
  refine x_getR fdX12_105 rfl dX12_shows_7 f1.1 f1.2 f2 ?_
  refine x_iconst (v := 1) dX12_shows_10 (by decide) ?_
  refine x_iald dX12_shows_11 f3.1 f3.2 (by unfold vp_in; decide) ?_
  refine x_iadd dX12_shows_12 ?_
  refine x_iald dX12_shows_13 f3.1 f3.2 (h1) ?_
  refine EX.sub [0] (K0.v (As := [.int (mi M 162 ((3 + (mi M 162 1)) : Int32).toNatClampNeg)]) (st := []) cvX12_344 dX12_shows_14 rfl rfl f1 rfl (Nat.le_of_ble_eq_true rfl) (k1)) rfl
set_option maxRecDepth 8000 in
theorem qX12_shows_17 {g : GG} {d : Nat} {M : MM} {P : Option Value → MM → Prop}  {M1 : MM} {M2 : MM} {M3 : MM} {la lb pa pb rl : Nat} (L : Lay M la lb pa pb rl)
    (qM1 : M1 = wi M 162 1 ((mi M 162 1) + 1))
    (qM2 : M2 = wi M1 162 1 0)
    (qM3 : M3 = wi M2 162 2 ((mi M2 162 2) + 1))
    (k1 : (mi M1 132 1) ≤ (mi M1 162 1) → P none M3)
    (k2 : ¬ ((mi M1 132 1) ≤ (mi M1 162 1)) → P none M1) :
    E0 g YX12_shows d 17 [(0, .ref 130)] [] M P := by
  have f1 : ob M 130 12 := L.s rfl (by decide)
  have f2 : mr M 130 43 = some 162 := L.r 157 rfl
  have f3 : ar M 162 1 19 := L.s rfl (by decide)
  have f4 : mr M 130 10 = some 132 := L.r 127 rfl
  have f5 : ar M 132 1 4 := L.s rfl (by decide)
  subst qM1 qM2 qM3
  refine x_aload_n dX12_shows_17 0 rfl ?_
  refine x_getR fdX12_105 rfl dX12_shows_18 f1.1 f1.2 f2 ?_
  refine x_iconst (v := 1) dX12_shows_21 (by decide) ?_
  refine x_dup2 dX12_shows_22 rfl rfl ?_
  refine x_iald dX12_shows_23 f3.1 f3.2 (by unfold vp_in; decide) ?_
  refine x_iconst (v := 1) dX12_shows_24 (by decide) ?_
  refine x_iadd dX12_shows_25 ?_
  refine x_iast dX12_shows_26 f3.1 f3.2 (by unfold vp_in; decide) ?_
  refine x_aload_n dX12_shows_27 0 rfl ?_
  refine x_getR fdX12_105 rfl dX12_shows_28 f1.1 f1.2 f2 ?_
  refine x_iconst (v := 1) dX12_shows_31 (by decide) ?_
  refine x_iald dX12_shows_32 f3.1 f3.2 (by unfold vp_in; decide) ?_
  refine x_aload_n dX12_shows_33 0 rfl ?_
  refine x_getR fdX12_13 rfl dX12_shows_34 f1.1 f1.2 f4 ?_
  refine x_iconst (v := 1) dX12_shows_37 (by decide) ?_
  refine x_iald dX12_shows_38 f5.1 f5.2 (by unfold vp_in; decide) ?_
  refine x_ic_ge 43 dX12_shows_39 (by decide) (fun c1 => ?_) (fun c1 => ?_)
  · refine x_aload_n dX12_shows_43 0 rfl ?_
    refine x_getR fdX12_105 rfl dX12_shows_44 f1.1 f1.2 f2 ?_
    refine x_iconst (v := 1) dX12_shows_47 (by decide) ?_
    refine x_iconst (v := 0) dX12_shows_48 (by decide) ?_
    refine x_iast dX12_shows_49 f3.1 f3.2 (by unfold vp_in; decide) ?_
    refine x_aload_n dX12_shows_50 0 rfl ?_
    refine x_getR fdX12_105 rfl dX12_shows_51 f1.1 f1.2 f2 ?_
    refine x_iconst (v := 2) dX12_shows_54 (by decide) ?_
    refine x_dup2 dX12_shows_55 rfl rfl ?_
    refine x_iald dX12_shows_56 f3.1 f3.2 (by unfold vp_in; decide) ?_
    refine x_iconst (v := 1) dX12_shows_57 (by decide) ?_
    refine x_iadd dX12_shows_58 ?_
    refine x_iast dX12_shows_59 f3.1 f3.2 (by unfold vp_in; decide) ?_
    exact x_vret rfl dX12_shows_60 (Nat.le_refl _) (Nat.le_refl _) (k1 c1)
  · exact x_vret rfl dX12_shows_42 (Nat.le_refl _) (Nat.le_refl _) (k2 c1)
set_option maxRecDepth 8000 in
theorem qX12_goesBack_0 {g : GG} {d : Nat} {M : MM} {P : Option Value → MM → Prop} {i1 : Int32} {M1 : MM} {M2 : MM} {la lb pa pb rl : Nat} (L : Lay M la lb pa pb rl)
    (qM1 : M1 = wi M 162 ((9 + i1) : Int32).toNatClampNeg 0)
    (qM2 : M2 = wi M1 162 0 ((mi M1 162 0) ||| ((1 : Int32) <<< (i1 &&& 31))))
    (h1 : vp_in (9 + i1) 19)
    (k1 : P none M2) :
    E0 g YX12_goesBack d 0 [(0, .ref 130), (1, .int i1)] [] M P := by
  have f1 : ob M 130 12 := L.s rfl (by decide)
  have f2 : mr M 130 43 = some 162 := L.r 157 rfl
  have f3 : ar M 162 1 19 := L.s rfl (by decide)
  subst qM1 qM2
  refine x_aload_n dX12_goesBack_0 0 rfl ?_
  refine x_getR fdX12_105 rfl dX12_goesBack_1 f1.1 f1.2 f2 ?_
  refine x_bipush (v := 9) dX12_goesBack_4 (by decide) ?_
  refine x_iload_n dX12_goesBack_6 1 rfl ?_
  refine x_iadd dX12_goesBack_7 ?_
  refine x_iconst (v := 0) dX12_goesBack_8 (by decide) ?_
  refine x_iast dX12_goesBack_9 f3.1 f3.2 (h1) ?_
  refine x_aload_n dX12_goesBack_10 0 rfl ?_
  refine x_getR fdX12_105 rfl dX12_goesBack_11 f1.1 f1.2 f2 ?_
  refine x_iconst (v := 0) dX12_goesBack_14 (by decide) ?_
  refine x_dup2 dX12_goesBack_15 rfl rfl ?_
  refine x_iald dX12_goesBack_16 f3.1 f3.2 (by unfold vp_in; decide) ?_
  refine x_iconst (v := 1) dX12_goesBack_17 (by decide) ?_
  refine x_iload_n dX12_goesBack_18 1 rfl ?_
  refine x_ishl dX12_goesBack_19 ?_
  refine x_ior dX12_goesBack_20 ?_
  refine x_iast dX12_goesBack_21 f3.1 f3.2 (by unfold vp_in; decide) ?_
  exact x_vret rfl dX12_goesBack_22 (Nat.le_refl _) (Nat.le_refl _) (k1)
set_option maxRecDepth 8000 in
theorem qX12_turns_0 {g : GG} {d : Nat} {M : MM} {P : Option Value → MM → Prop}  {la lb pa pb rl : Nat} (L : Lay M la lb pa pb rl)
    (k1 : E0 g YX12_turns d 9 [(0, .ref 130), (1, .int (mi M 132 1)), (2, .int 0)] [] M P) :
    E0 g YX12_turns d 0 [(0, .ref 130)] [] M P := by
  have f1 : ob M 130 12 := L.s rfl (by decide)
  have f2 : mr M 130 10 = some 132 := L.r 127 rfl
  have f3 : ar M 132 1 4 := L.s rfl (by decide)
  refine x_aload_n dX12_turns_0 0 rfl ?_
  refine x_getR fdX12_13 rfl dX12_turns_1 f1.1 f1.2 f2 ?_
  refine x_iconst (v := 1) dX12_turns_4 (by decide) ?_
  refine x_iald dX12_turns_5 f3.1 f3.2 (by unfold vp_in; decide) ?_
  refine x_istore_n (lv1 := [(1, .int (mi M 132 1)), (0, .ref 130)]) dX12_turns_6 (by decide) rfl ?_
  refine x_iconst (v := 0) dX12_turns_7 (by decide) ?_
  refine x_istore_n (lv1 := [(2, .int 0), (1, .int (mi M 132 1)), (0, .ref 130)]) dX12_turns_8 (by decide) rfl ?_
  exact EX.sub [2, 1, 0] k1 rfl
set_option maxRecDepth 8000 in
theorem qX12_turns_9 {g : GG} {d : Nat} {M : MM} {P : Option Value → MM → Prop} {i1 : Int32} {i2 : Int32} {M1 : MM} {M2 : MM} {M3 : MM} {la lb pa pb rl : Nat} (L : Lay M la lb pa pb rl)
    (qM1 : M1 = wi M 162 1 ((i1 - 1) - (mi M 162 1)))
    (qM2 : M2 = wi M 162 ((3 + i2) : Int32).toNatClampNeg (mi M 162 ((((3 + i1) - 1) - i2) : Int32).toNatClampNeg))
    (qM3 : M3 = wi M2 162 ((((3 + i1) - 1) - i2) : Int32).toNatClampNeg (mi M 162 ((3 + i2) : Int32).toNatClampNeg))
    (h1 : ¬ ((i1 / 2) ≤ i2) → vp_in (3 + i2) 19)
    (h2 : ¬ ((i1 / 2) ≤ i2) → vp_in (((3 + i1) - 1) - i2) 19)
    (k1 : (i1 / 2) ≤ i2 → i1 ≤ 0 → P none M)
    (k2 : (i1 / 2) ≤ i2 → ¬ (i1 ≤ 0) → P none M1)
    (k3 : ¬ ((i1 / 2) ≤ i2) → E0 g YX12_turns d 9 [(0, .ref 130), (1, .int i1), (2, .int (i2 + 1))] [] M3 P) :
    E0 g YX12_turns d 9 [(0, .ref 130), (1, .int i1), (2, .int i2)] [] M P := by
  have f1 : ob M 130 12 := L.s rfl (by decide)
  have f2 : mr M 130 43 = some 162 := L.r 157 rfl
  have f3 : ar M 162 1 19 := L.s rfl (by decide)
  subst qM1 qM2 qM3
  refine x_iload_n dX12_turns_9 2 rfl ?_
  refine x_iload_n dX12_turns_10 1 rfl ?_
  refine x_iconst (v := 2) dX12_turns_11 (by decide) ?_
  refine x_idiv dX12_turns_12 (by decide) ?_
  refine x_ic_ge 64 dX12_turns_13 (by decide) (fun c1 => ?_) (fun c1 => ?_)
  · refine x_iload_n dX12_turns_64 1 rfl ?_
    refine x_if_le 84 dX12_turns_65 (by decide) (fun c2 => ?_) (fun c2 => ?_)
    · exact x_vret rfl dX12_turns_84 (Nat.le_refl _) (Nat.le_refl _) (k1 c1 c2)
    · refine x_aload_n dX12_turns_68 0 rfl ?_
      refine x_getR fdX12_105 rfl dX12_turns_69 f1.1 f1.2 f2 ?_
      refine x_iconst (v := 1) dX12_turns_72 (by decide) ?_
      refine x_iload_n dX12_turns_73 1 rfl ?_
      refine x_iconst (v := 1) dX12_turns_74 (by decide) ?_
      refine x_isub dX12_turns_75 ?_
      refine x_aload_n dX12_turns_76 0 rfl ?_
      refine x_getR fdX12_105 rfl dX12_turns_77 f1.1 f1.2 f2 ?_
      refine x_iconst (v := 1) dX12_turns_80 (by decide) ?_
      refine x_iald dX12_turns_81 f3.1 f3.2 (by unfold vp_in; decide) ?_
      refine x_isub dX12_turns_82 ?_
      refine x_iast dX12_turns_83 f3.1 f3.2 (by unfold vp_in; decide) ?_
      exact x_vret rfl dX12_turns_84 (Nat.le_refl _) (Nat.le_refl _) (k2 c1 c2)
  · refine x_aload_n dX12_turns_16 0 rfl ?_
    refine x_getR fdX12_105 rfl dX12_turns_17 f1.1 f1.2 f2 ?_
    refine x_iconst (v := 3) dX12_turns_20 (by decide) ?_
    refine x_iload_n dX12_turns_21 2 rfl ?_
    refine x_iadd dX12_turns_22 ?_
    refine x_iald dX12_turns_23 f3.1 f3.2 (h1 c1) ?_
    refine x_istore_n (lv1 := [(3, .int (mi M 162 ((3 + i2) : Int32).toNatClampNeg)), (0, .ref 130), (1, .int i1), (2, .int i2)]) dX12_turns_24 (by decide) rfl ?_
    refine x_aload_n dX12_turns_25 1 rfl ?_
    refine x_getR fdX12_105 rfl dX12_turns_26 f1.1 f1.2 f2 ?_
    refine x_iconst (v := 3) dX12_turns_29 (by decide) ?_
    refine x_iload_n dX12_turns_30 3 rfl ?_
    refine x_iadd dX12_turns_31 ?_
    refine x_aload_n dX12_turns_32 1 rfl ?_
    refine x_getR fdX12_105 rfl dX12_turns_33 f1.1 f1.2 f2 ?_
    refine x_iconst (v := 3) dX12_turns_36 (by decide) ?_
    refine x_iload_n dX12_turns_37 2 rfl ?_
    refine x_iadd dX12_turns_38 ?_
    refine x_iconst (v := 1) dX12_turns_39 (by decide) ?_
    refine x_isub dX12_turns_40 ?_
    refine x_iload_n dX12_turns_41 3 rfl ?_
    refine x_isub dX12_turns_42 ?_
    refine x_iald dX12_turns_43 f3.1 f3.2 (h2 c1) ?_
    refine x_iast dX12_turns_44 f3.1 f3.2 (h1 c1) ?_
    refine x_aload_n dX12_turns_45 1 rfl ?_
    refine x_getR fdX12_105 rfl dX12_turns_46 f1.1 f1.2 f2 ?_
    refine x_iconst (v := 3) dX12_turns_49 (by decide) ?_
    refine x_iload_n dX12_turns_50 2 rfl ?_
    refine x_iadd dX12_turns_51 ?_
    refine x_iconst (v := 1) dX12_turns_52 (by decide) ?_
    refine x_isub dX12_turns_53 ?_
    refine x_iload_n dX12_turns_54 3 rfl ?_
    refine x_isub dX12_turns_55 ?_
    refine x_iload_n dX12_turns_56 0 rfl ?_
    refine x_iast dX12_turns_57 f3.1 f3.2 (h2 c1) ?_
    refine x_iinc (v := (i2 + 1)) (lv1 := [(2, .int (i2 + 1)), (3, .int (mi M 162 ((3 + i2) : Int32).toNatClampNeg)), (0, .ref 130), (1, .int i1)]) dX12_turns_58 3 rfl rfl (by decide) rfl ?_
    refine x_goto 9 dX12_turns_61 (by decide) ?_
    exact EX.sub [2, 3, 0] (k3 c1) rfl
set_option maxRecDepth 8000 in
theorem qX12_placeOf_0 {g : GG} {d : Nat} {M : MM} {P : Option Value → MM → Prop} {i1 : Int32}
    (k1 : E0 g YX12_placeOf d 2 [(0, .ref 130), (1, .int i1), (2, .int 0)] [] M P) :
    E0 g YX12_placeOf d 0 [(0, .ref 130), (1, .int i1)] [] M P := by
  refine x_iconst (v := 0) dX12_placeOf_0 (by decide) ?_
  refine x_istore_n (lv1 := [(2, .int 0), (0, .ref 130), (1, .int i1)]) dX12_placeOf_1 (by decide) rfl ?_
  exact EX.sub [1, 2, 0] k1 rfl
set_option maxRecDepth 8000 in
theorem qX12_placeOf_2 {g : GG} {d : Nat} {M : MM} {P : Option Value → MM → Prop} {i1 : Int32} {i2 : Int32} {la lb pa pb rl : Nat} (L : Lay M la lb pa pb rl)
    (h1 : vp_in (3 + i2) 19)
    (k1 : (mi M 162 ((3 + i2) : Int32).toNatClampNeg) = i1 → P (some (.int i2)) M)
    (k2 : ¬ ((mi M 162 ((3 + i2) : Int32).toNatClampNeg) = i1) → E0 g YX12_placeOf d 2 [(0, .ref 130), (1, .int i1), (2, .int (i2 + 1))] [] M P) :
    E0 g YX12_placeOf d 2 [(0, .ref 130), (1, .int i1), (2, .int i2)] [] M P := by
  have f1 : ob M 130 12 := L.s rfl (by decide)
  have f2 : mr M 130 43 = some 162 := L.r 157 rfl
  have f3 : ar M 162 1 19 := L.s rfl (by decide)
  refine x_aload_n dX12_placeOf_2 0 rfl ?_
  refine x_getR fdX12_105 rfl dX12_placeOf_3 f1.1 f1.2 f2 ?_
  refine x_iconst (v := 3) dX12_placeOf_6 (by decide) ?_
  refine x_iload_n dX12_placeOf_7 2 rfl ?_
  refine x_iadd dX12_placeOf_8 ?_
  refine x_iald dX12_placeOf_9 f3.1 f3.2 (h1) ?_
  refine x_iload_n dX12_placeOf_10 1 rfl ?_
  refine x_ic_eq 20 dX12_placeOf_11 (by decide) (fun c1 => ?_) (fun c1 => ?_)
  · refine x_iload_n dX12_placeOf_20 2 rfl ?_
    exact x_iret rfl dX12_placeOf_21 (Nat.le_refl _) (Nat.le_refl _) (k1 c1)
  · refine x_iinc (v := (i2 + 1)) (lv1 := [(2, .int (i2 + 1)), (0, .ref 130), (1, .int i1)]) dX12_placeOf_14 2 rfl rfl (by decide) rfl ?_
    refine x_goto 2 dX12_placeOf_17 (by decide) ?_
    exact EX.sub [1, 2, 0] (k2 c1) rfl
set_option maxRecDepth 8000 in
theorem qX12_shot_0 {g : GG} {d : Nat} {M : MM} {P : Option Value → MM → Prop} {i1 : Int32} {i2 : Int32} {M1 : MM} {la lb pa pb rl : Nat} (L : Lay M la lb pa pb rl)
    (qM1 : M1 = wi M 130 0 0)
    (k1 : K0 g YX12_shot YX12_isShot d 10 [.ref 130, .int i1] [(0, .ref 130), (1, .int i1), (2, .int i2)] [] M1 P) :
    E0 g YX12_shot d 0 [(0, .ref 130), (1, .int i1), (2, .int i2)] [] M P := by
  have f1 : ob M 130 12 := L.s rfl (by decide)
  subst qM1
  refine x_aload_n dX12_shot_0 0 rfl ?_
  refine x_iconst (v := 0) dX12_shot_1 (by decide) ?_
  refine x_putI fdX12_138 rfl (Or.inl rfl) dX12_shot_2 f1.1 f1.2 rfl rfl ?_
  refine x_aload_n dX12_shot_5 0 rfl ?_
  refine x_iload_n dX12_shot_6 1 rfl ?_
  refine EX.sub [0, 1, 2] (K0.v (As := [.int i1]) (st := []) cvX12_347 dX12_shot_7 rfl rfl f1 rfl (Nat.le_of_ble_eq_true rfl) (k1)) rfl
set_option maxRecDepth 8000 in
theorem qX12_shot_10 {g : GG} {d : Nat} {M : MM} {P : Option Value → MM → Prop} {i1 : Int32} {i2 : Int32} {s0 : Int32}
    (k1 : s0 = 0 → P (some (.int (-2))) M)
    (k2 : ¬ (s0 = 0) → K0 g YX12_shot YX12_within d 19 [.int i2, .int 0, .int 3] [(0, .ref 130), (1, .int i1), (2, .int i2)] [] M P) :
    E0 g YX12_shot d 10 [(0, .ref 130), (1, .int i1), (2, .int i2)] [.int s0] M P := by
  refine x_if_eq 22 dX12_shot_10 (by decide) (fun c1 => ?_) (fun c1 => ?_)
  · refine x_bipush (v := (-2)) dX12_shot_22 (by decide) ?_
    exact x_iret rfl dX12_shot_24 (Nat.le_refl _) (Nat.le_refl _) (k1 c1)
  · refine x_iload_n dX12_shot_13 2 rfl ?_
    refine x_iconst (v := 0) dX12_shot_14 (by decide) ?_
    refine x_iconst (v := 3) dX12_shot_15 (by decide) ?_
    refine EX.sub [0, 1, 2] (K0.s (As := [.int i2, .int 0, .int 3]) (st := []) csX12_253 dX12_shot_16 rfl rfl (Nat.le_of_ble_eq_true rfl) (k2 c1)) rfl
set_option maxRecDepth 8000 in
theorem qX12_shot_19 {g : GG} {d : Nat} {M : MM} {P : Option Value → MM → Prop} {i1 : Int32} {i2 : Int32} {s0 : Int32} {la lb pa pb rl : Nat} (L : Lay M la lb pa pb rl)
    (h1 : ¬ s0 = 0 → ¬ i2 = 0 → ¬ i2 = 1 → i2 = 2 → vp_in i1 20)
    (h2 : ¬ s0 = 0 → ¬ i2 = 0 → i2 = 1 → vp_in i1 20)
    (h3 : ¬ s0 = 0 → i2 = 0 → vp_in i1 20)
    (k1 : ¬ s0 = 0 → ¬ i2 = 0 → ¬ i2 = 1 → ¬ i2 = 2 → P (some (.int (((mi M 162 0) >>> (i1 &&& 31)) &&& 1))) M)
    (k2 : ¬ s0 = 0 → ¬ i2 = 0 → ¬ i2 = 1 → i2 = 2 → P (some (.int (mi M 137 (i1 : Int32).toNatClampNeg))) M)
    (k3 : ¬ s0 = 0 → ¬ i2 = 0 → i2 = 1 → P (some (.int (mi M 136 (i1 : Int32).toNatClampNeg))) M)
    (k4 : ¬ s0 = 0 → i2 = 0 → P (some (.int (mi M 135 (i1 : Int32).toNatClampNeg))) M)
    (k5 : s0 = 0 → P (some (.int (-2))) M) :
    E0 g YX12_shot d 19 [(0, .ref 130), (1, .int i1), (2, .int i2)] [.int s0] M P := by
  have f1 : ob M 130 12 := L.s rfl (by decide)
  have f2 : mr M 130 43 = some 162 := L.r 157 rfl
  have f3 : ar M 162 1 19 := L.s rfl (by decide)
  have f4 : mr M 130 15 = some 137 := L.r 132 rfl
  have f5 : ar M 137 1 20 := L.s rfl (by decide)
  have f6 : mr M 130 14 = some 136 := L.r 131 rfl
  have f7 : ar M 136 1 20 := L.s rfl (by decide)
  have f8 : mr M 130 13 = some 135 := L.r 130 rfl
  have f9 : ar M 135 1 20 := L.s rfl (by decide)
  refine x_if_ne 25 dX12_shot_19 (by decide) (fun c1 => ?_) (fun c1 => ?_)
  · refine x_iload_n dX12_shot_25 2 rfl ?_
    refine x_if_ne 38 dX12_shot_26 (by decide) (fun c2 => ?_) (fun c2 => ?_)
    · refine x_iload_n dX12_shot_38 2 rfl ?_
      refine x_iconst (v := 1) dX12_shot_39 (by decide) ?_
      refine x_ic_ne 52 dX12_shot_40 (by decide) (fun c3 => ?_) (fun c3 => ?_)
      · refine x_iload_n dX12_shot_52 2 rfl ?_
        refine x_iconst (v := 2) dX12_shot_53 (by decide) ?_
        refine x_ic_ne 66 dX12_shot_54 (by decide) (fun c4 => ?_) (fun c4 => ?_)
        · refine x_aload_n dX12_shot_66 0 rfl ?_
          refine x_getR fdX12_105 rfl dX12_shot_67 f1.1 f1.2 f2 ?_
          refine x_iconst (v := 0) dX12_shot_70 (by decide) ?_
          refine x_iald dX12_shot_71 f3.1 f3.2 (by unfold vp_in; decide) ?_
          refine x_iload_n dX12_shot_72 1 rfl ?_
          refine x_ishr dX12_shot_73 ?_
          refine x_iconst (v := 1) dX12_shot_74 (by decide) ?_
          refine x_iand dX12_shot_75 ?_
          exact x_iret rfl dX12_shot_76 (Nat.le_refl _) (Nat.le_refl _) (k1 c1 c2 c3 c4)
        · refine x_aload_n dX12_shot_57 0 rfl ?_
          refine x_getR fdX12_29 rfl dX12_shot_58 f1.1 f1.2 f4 ?_
          refine x_iload_n dX12_shot_61 1 rfl ?_
          refine x_iald dX12_shot_62 f5.1 f5.2 (h1 c1 c2 c3 c4) ?_
          refine x_goto 76 dX12_shot_63 (by decide) ?_
          exact x_iret rfl dX12_shot_76 (Nat.le_refl _) (Nat.le_refl _) (k2 c1 c2 c3 c4)
      · refine x_aload_n dX12_shot_43 0 rfl ?_
        refine x_getR fdX12_26 rfl dX12_shot_44 f1.1 f1.2 f6 ?_
        refine x_iload_n dX12_shot_47 1 rfl ?_
        refine x_iald dX12_shot_48 f7.1 f7.2 (h2 c1 c2 c3) ?_
        refine x_goto 76 dX12_shot_49 (by decide) ?_
        exact x_iret rfl dX12_shot_76 (Nat.le_refl _) (Nat.le_refl _) (k3 c1 c2 c3)
    · refine x_aload_n dX12_shot_29 0 rfl ?_
      refine x_getR fdX12_23 rfl dX12_shot_30 f1.1 f1.2 f8 ?_
      refine x_iload_n dX12_shot_33 1 rfl ?_
      refine x_iald dX12_shot_34 f9.1 f9.2 (h3 c1 c2) ?_
      refine x_goto 76 dX12_shot_35 (by decide) ?_
      exact x_iret rfl dX12_shot_76 (Nat.le_refl _) (Nat.le_refl _) (k4 c1 c2)
  · refine x_bipush (v := (-2)) dX12_shot_22 (by decide) ?_
    exact x_iret rfl dX12_shot_24 (Nat.le_refl _) (Nat.le_refl _) (k5 c1)
set_option maxRecDepth 8000 in
theorem qX12_hall_0 {g : GG} {d : Nat} {M : MM} {P : Option Value → MM → Prop} {i1 : Int32} {i2 : Int32} {M1 : MM} {la lb pa pb rl : Nat} (L : Lay M la lb pa pb rl)
    (qM1 : M1 = wi M 130 0 0)
    (k1 : K0 g YX12_hall YX12_isHall d 10 [.ref 130, .int i1] [(0, .ref 130), (1, .int i1), (2, .int i2)] [] M1 P) :
    E0 g YX12_hall d 0 [(0, .ref 130), (1, .int i1), (2, .int i2)] [] M P := by
  have f1 : ob M 130 12 := L.s rfl (by decide)
  subst qM1
  refine x_aload_n dX12_hall_0 0 rfl ?_
  refine x_iconst (v := 0) dX12_hall_1 (by decide) ?_
  refine x_putI fdX12_138 rfl (Or.inl rfl) dX12_hall_2 f1.1 f1.2 rfl rfl ?_
  refine x_aload_n dX12_hall_5 0 rfl ?_
  refine x_iload_n dX12_hall_6 1 rfl ?_
  refine EX.sub [0, 1, 2] (K0.v (As := [.int i1]) (st := []) cvX12_350 dX12_hall_7 rfl rfl f1 rfl (Nat.le_of_ble_eq_true rfl) (k1)) rfl
set_option maxRecDepth 8000 in
theorem qX12_hall_10 {g : GG} {d : Nat} {M : MM} {P : Option Value → MM → Prop} {i1 : Int32} {i2 : Int32} {s0 : Int32}
    (k1 : s0 = 0 → P (some (.int (-1))) M)
    (k2 : ¬ (s0 = 0) → K0 g YX12_hall YX12_within d 19 [.int i2, .int 0, .int 3] [(0, .ref 130), (1, .int i1), (2, .int i2)] [] M P) :
    E0 g YX12_hall d 10 [(0, .ref 130), (1, .int i1), (2, .int i2)] [.int s0] M P := by
  refine x_if_eq 22 dX12_hall_10 (by decide) (fun c1 => ?_) (fun c1 => ?_)
  · refine x_iconst (v := (-1)) dX12_hall_22 (by decide) ?_
    exact x_iret rfl dX12_hall_23 (Nat.le_refl _) (Nat.le_refl _) (k1 c1)
  · refine x_iload_n dX12_hall_13 2 rfl ?_
    refine x_iconst (v := 0) dX12_hall_14 (by decide) ?_
    refine x_iconst (v := 3) dX12_hall_15 (by decide) ?_
    refine EX.sub [0, 1, 2] (K0.s (As := [.int i2, .int 0, .int 3]) (st := []) csX12_253 dX12_hall_16 rfl rfl (Nat.le_of_ble_eq_true rfl) (k2 c1)) rfl
set_option maxRecDepth 8000 in
theorem qX12_hall_19 {g : GG} {d : Nat} {M : MM} {P : Option Value → MM → Prop} {i1 : Int32} {i2 : Int32} {s0 : Int32} {la lb pa pb rl : Nat} (L : Lay M la lb pa pb rl)
    (h1 : ¬ s0 = 0 → i2 = 0 → vp_in i1 12)
    (k1 : ¬ s0 = 0 → ¬ i2 = 0 → ¬ i2 = 1 → ¬ i2 = 2 → K0 g YX12_hall YX12_takesOut d 74 [.ref 130, .int i1, .int (mi M 162 0)] [] [] M P)
    (k2 : ¬ s0 = 0 → ¬ i2 = 0 → ¬ i2 = 1 → i2 = 2 → K0 g YX12_hall YX12_placeOf d 60 [.ref 130, .int i1] [] [] M P)
    (k3 : ¬ s0 = 0 → ¬ i2 = 0 → i2 = 1 → K0 g YX12_hall YX12_drawerOf d 47 [.ref 130, .int i1] [] [] M P)
    (k4 : ¬ s0 = 0 → i2 = 0 → E0 g YX12_hall d 74 [] [.int (mi M 138 (i1 : Int32).toNatClampNeg)] M P)
    (k5 : s0 = 0 → P (some (.int (-1))) M) :
    E0 g YX12_hall d 19 [(0, .ref 130), (1, .int i1), (2, .int i2)] [.int s0] M P := by
  have f1 : ob M 130 12 := L.s rfl (by decide)
  have f2 : mr M 130 43 = some 162 := L.r 157 rfl
  have f3 : ar M 162 1 19 := L.s rfl (by decide)
  have f4 : mr M 130 16 = some 138 := L.r 133 rfl
  have f5 : ar M 138 1 12 := L.s rfl (by decide)
  refine x_if_ne 24 dX12_hall_19 (by decide) (fun c1 => ?_) (fun c1 => ?_)
  · refine x_iload_n dX12_hall_24 2 rfl ?_
    refine x_if_ne 37 dX12_hall_25 (by decide) (fun c2 => ?_) (fun c2 => ?_)
    · refine x_iload_n dX12_hall_37 2 rfl ?_
      refine x_iconst (v := 1) dX12_hall_38 (by decide) ?_
      refine x_ic_ne 50 dX12_hall_39 (by decide) (fun c3 => ?_) (fun c3 => ?_)
      · refine x_iload_n dX12_hall_50 2 rfl ?_
        refine x_iconst (v := 2) dX12_hall_51 (by decide) ?_
        refine x_ic_ne 63 dX12_hall_52 (by decide) (fun c4 => ?_) (fun c4 => ?_)
        · refine x_aload_n dX12_hall_63 0 rfl ?_
          refine x_iload_n dX12_hall_64 1 rfl ?_
          refine x_aload_n dX12_hall_65 0 rfl ?_
          refine x_getR fdX12_105 rfl dX12_hall_66 f1.1 f1.2 f2 ?_
          refine x_iconst (v := 0) dX12_hall_69 (by decide) ?_
          refine x_iald dX12_hall_70 f3.1 f3.2 (by unfold vp_in; decide) ?_
          refine EX.sub [] (K0.v (As := [.int i1, .int (mi M 162 0)]) (st := []) cvX12_340 dX12_hall_71 rfl rfl f1 rfl (Nat.le_of_ble_eq_true rfl) (k1 c1 c2 c3 c4)) rfl
        · refine x_aload_n dX12_hall_55 0 rfl ?_
          refine x_iload_n dX12_hall_56 1 rfl ?_
          refine EX.sub [] (K0.v (As := [.int i1]) (st := []) cvX12_356 dX12_hall_57 rfl rfl f1 rfl (Nat.le_of_ble_eq_true rfl) (k2 c1 c2 c3 c4)) rfl
      · refine x_aload_n dX12_hall_42 0 rfl ?_
        refine x_iload_n dX12_hall_43 1 rfl ?_
        refine EX.sub [] (K0.v (As := [.int i1]) (st := []) cvX12_353 dX12_hall_44 rfl rfl f1 rfl (Nat.le_of_ble_eq_true rfl) (k3 c1 c2 c3)) rfl
    · refine x_aload_n dX12_hall_28 0 rfl ?_
      refine x_getR fdX12_32 rfl dX12_hall_29 f1.1 f1.2 f4 ?_
      refine x_iload_n dX12_hall_32 1 rfl ?_
      refine x_iald dX12_hall_33 f5.1 f5.2 (h1 c1 c2) ?_
      refine x_goto 74 dX12_hall_34 (by decide) ?_
      exact EX.sub [] (k4 c1 c2) rfl
  · refine x_iconst (v := (-1)) dX12_hall_22 (by decide) ?_
    exact x_iret rfl dX12_hall_23 (Nat.le_refl _) (Nat.le_refl _) (k5 c1)
set_option maxRecDepth 8000 in
theorem qX12_hall_47 {g : GG} {d : Nat} {M : MM} {P : Option Value → MM → Prop} {s0 : Int32}
    (k1 : E0 g YX12_hall d 74 [] [.int s0] M P) :
    E0 g YX12_hall d 47 [] [.int s0] M P := by
  refine x_goto 74 dX12_hall_47 (by decide) ?_
  exact EX.sub [] k1 rfl
set_option maxRecDepth 8000 in
theorem qX12_hall_60 {g : GG} {d : Nat} {M : MM} {P : Option Value → MM → Prop} {s0 : Int32}
    (k1 : E0 g YX12_hall d 74 [] [.int s0] M P) :
    E0 g YX12_hall d 60 [] [.int s0] M P := by
  refine x_goto 74 dX12_hall_60 (by decide) ?_
  exact EX.sub [] k1 rfl
set_option maxRecDepth 8000 in
theorem qX12_hall_74 {g : GG} {d : Nat} {M : MM} {P : Option Value → MM → Prop} {s0 : Int32}
    (k1 : P (some (.int s0)) M) :
    E0 g YX12_hall d 74 [] [.int s0] M P := by
  exact x_iret rfl dX12_hall_74 (Nat.le_refl _) (Nat.le_refl _) (k1)
set_option maxRecDepth 8000 in
theorem qX12_keeps_0 {g : GG} {d : Nat} {M : MM} {P : Option Value → MM → Prop}  {la lb pa pb rl : Nat} (L : Lay M la lb pa pb rl)
    (k1 : ¬ (mi M 130 49) = 16 → K0 g YX12_keeps YX12_copies d 68 [.ref 162, .int 0, .ref 166, .int (19 * (mi M 130 49))] [(0, .ref 130)] [] M P)
    (k2 : (mi M 130 49) = 16 → E0 g YX12_keeps d 11 [(0, .ref 130), (1, .int 0)] [] M P) :
    E0 g YX12_keeps d 0 [(0, .ref 130)] [] M P := by
  have f1 : ob M 130 12 := L.s rfl (by decide)
  have f2 : mr M 130 43 = some 162 := L.r 157 rfl
  have f3 : mr M 130 47 = some 166 := L.r 161 rfl
  refine x_aload_n dX12_keeps_0 0 rfl ?_
  refine x_getI fdX12_323 rfl dX12_keeps_1 f1.1 f1.2 ?_
  refine x_bipush (v := 16) dX12_keeps_4 (by decide) ?_
  refine x_ic_ne 49 dX12_keeps_6 (by decide) (fun c1 => ?_) (fun c1 => ?_)
  · refine x_aload_n dX12_keeps_49 0 rfl ?_
    refine x_getR fdX12_105 rfl dX12_keeps_50 f1.1 f1.2 f2 ?_
    refine x_iconst (v := 0) dX12_keeps_53 (by decide) ?_
    refine x_aload_n dX12_keeps_54 0 rfl ?_
    refine x_getR fdX12_117 rfl dX12_keeps_55 f1.1 f1.2 f3 ?_
    refine x_bipush (v := 19) dX12_keeps_58 (by decide) ?_
    refine x_aload_n dX12_keeps_60 0 rfl ?_
    refine x_getI fdX12_323 rfl dX12_keeps_61 f1.1 f1.2 ?_
    refine x_imul dX12_keeps_64 ?_
    refine EX.sub [0] (K0.s (As := [.ref 162, .int 0, .ref 166, .int (19 * (mi M 130 49))]) (st := []) csX12_359 dX12_keeps_65 rfl rfl (Nat.le_of_ble_eq_true rfl) (k1 c1)) rfl
  · refine x_iconst (v := 0) dX12_keeps_9 (by decide) ?_
    refine x_istore_n (lv1 := [(1, .int 0), (0, .ref 130)]) dX12_keeps_10 (by decide) rfl ?_
    exact EX.sub [1, 0] (k2 c1) rfl
set_option maxRecDepth 8000 in
theorem qX12_keeps_11 {g : GG} {d : Nat} {M : MM} {P : Option Value → MM → Prop} {i1 : Int32} {M1 : MM} {M2 : MM} {la lb pa pb rl : Nat} (L : Lay M la lb pa pb rl)
    (qM1 : M1 = wi M 130 49 ((mi M 130 49) - 1))
    (qM2 : M2 = wi M 166 (i1 : Int32).toNatClampNeg (mi M 166 ((i1 + 19) : Int32).toNatClampNeg))
    (h1 : ¬ (285 ≤ i1) → vp_in (i1 + 19) 304)
    (h2 : ¬ (285 ≤ i1) → vp_in i1 304)
    (k1 : 285 ≤ i1 → K0 g YX12_keeps YX12_copies d 68 [.ref 162, .int 0, .ref 166, .int (19 * (mi M1 130 49))] [(0, .ref 130)] [] M1 P)
    (k2 : ¬ (285 ≤ i1) → E0 g YX12_keeps d 11 [(0, .ref 130), (1, .int (i1 + 1))] [] M2 P) :
    E0 g YX12_keeps d 11 [(0, .ref 130), (1, .int i1)] [] M P := by
  have f1 : ob M 130 12 := L.s rfl (by decide)
  have f2 : mr M 130 43 = some 162 := L.r 157 rfl
  have f3 : mr M 130 47 = some 166 := L.r 161 rfl
  have f4 : ar M 166 1 304 := L.s rfl (by decide)
  subst qM1 qM2
  let M1 : MM := wi M 130 49 ((mi M 130 49) - 1)
  let M2 : MM := wi M 166 (i1 : Int32).toNatClampNeg (mi M 166 ((i1 + 19) : Int32).toNatClampNeg)
  refine x_iload_n dX12_keeps_11 1 rfl ?_
  refine x_sipush (v := 285) dX12_keeps_12 (by decide) ?_
  refine x_ic_ge 39 dX12_keeps_15 (by decide) (fun c1 => ?_) (fun c1 => ?_)
  · refine x_aload_n dX12_keeps_39 0 rfl ?_
    refine x_dup dX12_keeps_40 rfl ?_
    refine x_getI fdX12_323 rfl dX12_keeps_41 f1.1 f1.2 ?_
    refine x_iconst (v := 1) dX12_keeps_44 (by decide) ?_
    refine x_isub dX12_keeps_45 ?_
    refine x_putI fdX12_323 rfl (Or.inl rfl) dX12_keeps_46 f1.1 f1.2 rfl rfl ?_
    refine x_aload_n dX12_keeps_49 0 rfl ?_
    refine x_getR fdX12_105 rfl dX12_keeps_50 f1.1 f1.2 f2 ?_
    refine x_iconst (v := 0) dX12_keeps_53 (by decide) ?_
    refine x_aload_n dX12_keeps_54 0 rfl ?_
    refine x_getR fdX12_117 rfl dX12_keeps_55 f1.1 f1.2 f3 ?_
    refine x_bipush (v := 19) dX12_keeps_58 (by decide) ?_
    refine x_aload_n dX12_keeps_60 0 rfl ?_
    refine x_getI fdX12_323 rfl dX12_keeps_61 f1.1 f1.2 ?_
    refine x_imul dX12_keeps_64 ?_
    refine EX.sub [0] (K0.s (As := [.ref 162, .int 0, .ref 166, .int (19 * (mi M1 130 49))]) (st := []) csX12_359 dX12_keeps_65 rfl rfl (Nat.le_of_ble_eq_true rfl) (k1 c1)) rfl
  · refine x_aload_n dX12_keeps_18 0 rfl ?_
    refine x_getR fdX12_117 rfl dX12_keeps_19 f1.1 f1.2 f3 ?_
    refine x_iload_n dX12_keeps_22 1 rfl ?_
    refine x_aload_n dX12_keeps_23 0 rfl ?_
    refine x_getR fdX12_117 rfl dX12_keeps_24 f1.1 f1.2 f3 ?_
    refine x_iload_n dX12_keeps_27 1 rfl ?_
    refine x_bipush (v := 19) dX12_keeps_28 (by decide) ?_
    refine x_iadd dX12_keeps_30 ?_
    refine x_iald dX12_keeps_31 f4.1 f4.2 (h1 c1) ?_
    refine x_iast dX12_keeps_32 f4.1 f4.2 (h2 c1) ?_
    refine x_iinc (v := (i1 + 1)) (lv1 := [(1, .int (i1 + 1)), (0, .ref 130)]) dX12_keeps_33 1 rfl rfl (by decide) rfl ?_
    refine x_goto 11 dX12_keeps_36 (by decide) ?_
    exact EX.sub [1, 0] (k2 c1) rfl
set_option maxRecDepth 8000 in
theorem qX12_keeps_68 {g : GG} {d : Nat} {M : MM} {P : Option Value → MM → Prop}  {M1 : MM} {la lb pa pb rl : Nat} (L : Lay M la lb pa pb rl)
    (qM1 : M1 = wi M 130 49 ((mi M 130 49) + 1))
    (k1 : P none M1) :
    E0 g YX12_keeps d 68 [(0, .ref 130)] [] M P := by
  have f1 : ob M 130 12 := L.s rfl (by decide)
  subst qM1
  refine x_aload_n dX12_keeps_68 0 rfl ?_
  refine x_dup dX12_keeps_69 rfl ?_
  refine x_getI fdX12_323 rfl dX12_keeps_70 f1.1 f1.2 ?_
  refine x_iconst (v := 1) dX12_keeps_73 (by decide) ?_
  refine x_iadd dX12_keeps_74 ?_
  refine x_putI fdX12_323 rfl (Or.inl rfl) dX12_keeps_75 f1.1 f1.2 rfl rfl ?_
  exact x_vret rfl dX12_keeps_78 (Nat.le_refl _) (Nat.le_refl _) (k1)
set_option maxRecDepth 8000 in
theorem qX12_show_0 {g : GG} {d : Nat} {M : MM} {P : Option Value → MM → Prop}  {M1 : MM} {la lb pa pb rl : Nat} (L : Lay M la lb pa pb rl)
    (qM1 : M1 = wi M 130 0 0)
    (k1 : ¬ (mi M1 132 1) = 0 → K0 g YX12_show YX12_keeps d 20 [.ref 130] [(0, .ref 130)] [] M1 P)
    (k2 : (mi M1 132 1) = 0 → P (some (.int (-1))) M1) :
    E0 g YX12_show d 0 [(0, .ref 130)] [] M P := by
  have f1 : ob M 130 12 := L.s rfl (by decide)
  have f2 : mr M 130 10 = some 132 := L.r 127 rfl
  have f3 : ar M 132 1 4 := L.s rfl (by decide)
  subst qM1
  refine x_aload_n dX12_show_0 0 rfl ?_
  refine x_iconst (v := 0) dX12_show_1 (by decide) ?_
  refine x_putI fdX12_138 rfl (Or.inl rfl) dX12_show_2 f1.1 f1.2 rfl rfl ?_
  refine x_aload_n dX12_show_5 0 rfl ?_
  refine x_getR fdX12_13 rfl dX12_show_6 f1.1 f1.2 f2 ?_
  refine x_iconst (v := 1) dX12_show_9 (by decide) ?_
  refine x_iald dX12_show_10 f3.1 f3.2 (by unfold vp_in; decide) ?_
  refine x_if_ne 16 dX12_show_11 (by decide) (fun c1 => ?_) (fun c1 => ?_)
  · refine x_aload_n dX12_show_16 0 rfl ?_
    refine EX.sub [0] (K0.v (As := []) (st := []) cvX12_363 dX12_show_17 rfl rfl f1 rfl (Nat.le_of_ble_eq_true rfl) (k1 c1)) rfl
  · refine x_iconst (v := (-1)) dX12_show_14 (by decide) ?_
    exact x_iret rfl dX12_show_15 (Nat.le_refl _) (Nat.le_refl _) (k2 c1)
set_option maxRecDepth 8000 in
theorem qX12_show_20 {g : GG} {d : Nat} {M : MM} {P : Option Value → MM → Prop}  {la lb pa pb rl : Nat} (L : Lay M la lb pa pb rl)
    (k1 : K0 g YX12_show YX12_shows d 24 [.ref 130] [(0, .ref 130)] [] M P) :
    E0 g YX12_show d 20 [(0, .ref 130)] [] M P := by
  have f1 : ob M 130 12 := L.s rfl (by decide)
  refine x_aload_n dX12_show_20 0 rfl ?_
  refine EX.sub [0] (K0.v (As := []) (st := []) cvX12_366 dX12_show_21 rfl rfl f1 rfl (Nat.le_of_ble_eq_true rfl) (k1)) rfl
set_option maxRecDepth 8000 in
theorem qX12_show_24 {g : GG} {d : Nat} {M : MM} {P : Option Value → MM → Prop}  {la lb pa pb rl : Nat} (L : Lay M la lb pa pb rl)
    (k1 : K0 g YX12_show YX12_minutesOf d 34 [.ref 130, .int (mi M 162 0)] [] [] M P) :
    E0 g YX12_show d 24 [(0, .ref 130)] [] M P := by
  have f1 : ob M 130 12 := L.s rfl (by decide)
  have f2 : mr M 130 43 = some 162 := L.r 157 rfl
  have f3 : ar M 162 1 19 := L.s rfl (by decide)
  refine x_aload_n dX12_show_24 0 rfl ?_
  refine x_aload_n dX12_show_25 0 rfl ?_
  refine x_getR fdX12_105 rfl dX12_show_26 f1.1 f1.2 f2 ?_
  refine x_iconst (v := 0) dX12_show_29 (by decide) ?_
  refine x_iald dX12_show_30 f3.1 f3.2 (by unfold vp_in; decide) ?_
  refine EX.sub [] (K0.v (As := [.int (mi M 162 0)]) (st := []) cvX12_369 dX12_show_31 rfl rfl f1 rfl (Nat.le_of_ble_eq_true rfl) (k1)) rfl
set_option maxRecDepth 8000 in
theorem qX12_show_34 {g : GG} {d : Nat} {M : MM} {P : Option Value → MM → Prop} {s0 : Int32}
    (k1 : P (some (.int s0)) M) :
    E0 g YX12_show d 34 [] [.int s0] M P := by
  exact x_iret rfl dX12_show_34 (Nat.le_refl _) (Nat.le_refl _) (k1)
set_option maxRecDepth 8000 in
theorem qX12_give_0 {g : GG} {d : Nat} {M : MM} {P : Option Value → MM → Prop} {i1 : Int32} {i2 : Int32} {M1 : MM} {la lb pa pb rl : Nat} (L : Lay M la lb pa pb rl)
    (qM1 : M1 = wi M 130 0 0)
    (k1 : K0 g YX12_give YX12_isHall d 10 [.ref 130, .int i1] [(0, .ref 130), (1, .int i1), (2, .int i2)] [] M1 P) :
    E0 g YX12_give d 0 [(0, .ref 130), (1, .int i1), (2, .int i2)] [] M P := by
  have f1 : ob M 130 12 := L.s rfl (by decide)
  subst qM1
  refine x_aload_n dX12_give_0 0 rfl ?_
  refine x_iconst (v := 0) dX12_give_1 (by decide) ?_
  refine x_putI fdX12_138 rfl (Or.inl rfl) dX12_give_2 f1.1 f1.2 rfl rfl ?_
  refine x_aload_n dX12_give_5 0 rfl ?_
  refine x_iload_n dX12_give_6 1 rfl ?_
  refine EX.sub [0, 1, 2] (K0.v (As := [.int i1]) (st := []) cvX12_350 dX12_give_7 rfl rfl f1 rfl (Nat.le_of_ble_eq_true rfl) (k1)) rfl
set_option maxRecDepth 8000 in
theorem qX12_give_10 {g : GG} {d : Nat} {M : MM} {P : Option Value → MM → Prop} {i1 : Int32} {i2 : Int32} {s0 : Int32} {la lb pa pb rl : Nat} (L : Lay M la lb pa pb rl)
    (k1 : s0 = 0 → P (some (.int (-1))) M)
    (k2 : ¬ (s0 = 0) → K0 g YX12_give YX12_isShot d 18 [.ref 130, .int i2] [(0, .ref 130), (1, .int i1), (2, .int i2)] [] M P) :
    E0 g YX12_give d 10 [(0, .ref 130), (1, .int i1), (2, .int i2)] [.int s0] M P := by
  have f1 : ob M 130 12 := L.s rfl (by decide)
  refine x_if_eq 36 dX12_give_10 (by decide) (fun c1 => ?_) (fun c1 => ?_)
  · refine x_iconst (v := (-1)) dX12_give_36 (by decide) ?_
    exact x_iret rfl dX12_give_37 (Nat.le_refl _) (Nat.le_refl _) (k1 c1)
  · refine x_aload_n dX12_give_13 0 rfl ?_
    refine x_iload_n dX12_give_14 2 rfl ?_
    refine EX.sub [0, 1, 2] (K0.v (As := [.int i2]) (st := []) cvX12_347 dX12_give_15 rfl rfl f1 rfl (Nat.le_of_ble_eq_true rfl) (k2 c1)) rfl
set_option maxRecDepth 8000 in
theorem qX12_give_18 {g : GG} {d : Nat} {M : MM} {P : Option Value → MM → Prop} {i1 : Int32} {i2 : Int32} {s0 : Int32} {la lb pa pb rl : Nat} (L : Lay M la lb pa pb rl)
    (h1 : ¬ (s0 = 0) → vp_in (9 + i2) 19)
    (k1 : s0 = 0 → P (some (.int (-1))) M)
    (k2 : ¬ (s0 = 0) → (mi M 162 ((9 + i2) : Int32).toNatClampNeg) = (i1 + 1) → K0 g YX12_give YX12_keeps d 42 [.ref 130] [(0, .ref 130), (2, .int i2)] [] M P)
    (k3 : ¬ (s0 = 0) → ¬ ((mi M 162 ((9 + i2) : Int32).toNatClampNeg) = (i1 + 1)) → P (some (.int (-1))) M) :
    E0 g YX12_give d 18 [(0, .ref 130), (1, .int i1), (2, .int i2)] [.int s0] M P := by
  have f1 : ob M 130 12 := L.s rfl (by decide)
  have f2 : mr M 130 43 = some 162 := L.r 157 rfl
  have f3 : ar M 162 1 19 := L.s rfl (by decide)
  refine x_if_eq 36 dX12_give_18 (by decide) (fun c1 => ?_) (fun c1 => ?_)
  · refine x_iconst (v := (-1)) dX12_give_36 (by decide) ?_
    exact x_iret rfl dX12_give_37 (Nat.le_refl _) (Nat.le_refl _) (k1 c1)
  · refine x_aload_n dX12_give_21 0 rfl ?_
    refine x_getR fdX12_105 rfl dX12_give_22 f1.1 f1.2 f2 ?_
    refine x_bipush (v := 9) dX12_give_25 (by decide) ?_
    refine x_iload_n dX12_give_27 2 rfl ?_
    refine x_iadd dX12_give_28 ?_
    refine x_iald dX12_give_29 f3.1 f3.2 (h1 c1) ?_
    refine x_iload_n dX12_give_30 1 rfl ?_
    refine x_iconst (v := 1) dX12_give_31 (by decide) ?_
    refine x_iadd dX12_give_32 ?_
    refine x_ic_eq 38 dX12_give_33 (by decide) (fun c2 => ?_) (fun c2 => ?_)
    · refine x_aload_n dX12_give_38 0 rfl ?_
      refine EX.sub [0, 2] (K0.v (As := []) (st := []) cvX12_363 dX12_give_39 rfl rfl f1 rfl (Nat.le_of_ble_eq_true rfl) (k2 c1 c2)) rfl
    · refine x_iconst (v := (-1)) dX12_give_36 (by decide) ?_
      exact x_iret rfl dX12_give_37 (Nat.le_refl _) (Nat.le_refl _) (k3 c1 c2)
set_option maxRecDepth 8000 in
theorem qX12_give_42 {g : GG} {d : Nat} {M : MM} {P : Option Value → MM → Prop} {i2 : Int32} {la lb pa pb rl : Nat} (L : Lay M la lb pa pb rl)
    (k1 : K0 g YX12_give YX12_goesBack d 47 [.ref 130, .int i2] [(0, .ref 130)] [] M P) :
    E0 g YX12_give d 42 [(0, .ref 130), (2, .int i2)] [] M P := by
  have f1 : ob M 130 12 := L.s rfl (by decide)
  refine x_aload_n dX12_give_42 0 rfl ?_
  refine x_iload_n dX12_give_43 1 rfl ?_
  refine EX.sub [0] (K0.v (As := [.int i2]) (st := []) cvX12_372 dX12_give_44 rfl rfl f1 rfl (Nat.le_of_ble_eq_true rfl) (k1)) rfl
set_option maxRecDepth 8000 in
theorem qX12_give_47 {g : GG} {d : Nat} {M : MM} {P : Option Value → MM → Prop}  {la lb pa pb rl : Nat} (L : Lay M la lb pa pb rl)
    (k1 : K0 g YX12_give YX12_bits d 56 [.int (mi M 162 0)] [] [] M P) :
    E0 g YX12_give d 47 [(0, .ref 130)] [] M P := by
  have f1 : ob M 130 12 := L.s rfl (by decide)
  have f2 : mr M 130 43 = some 162 := L.r 157 rfl
  have f3 : ar M 162 1 19 := L.s rfl (by decide)
  refine x_aload_n dX12_give_47 0 rfl ?_
  refine x_getR fdX12_105 rfl dX12_give_48 f1.1 f1.2 f2 ?_
  refine x_iconst (v := 0) dX12_give_51 (by decide) ?_
  refine x_iald dX12_give_52 f3.1 f3.2 (by unfold vp_in; decide) ?_
  refine EX.sub [] (K0.s (As := [.int (mi M 162 0)]) (st := []) csX12_375 dX12_give_53 rfl rfl (Nat.le_of_ble_eq_true rfl) (k1)) rfl
set_option maxRecDepth 8000 in
theorem qX12_give_56 {g : GG} {d : Nat} {M : MM} {P : Option Value → MM → Prop} {s0 : Int32}
    (k1 : P (some (.int s0)) M) :
    E0 g YX12_give d 56 [] [.int s0] M P := by
  exact x_iret rfl dX12_give_56 (Nat.le_refl _) (Nat.le_refl _) (k1)
set_option maxRecDepth 8000 in
theorem qX12_trade_0 {g : GG} {d : Nat} {M : MM} {P : Option Value → MM → Prop} {i1 : Int32} {i2 : Int32} {i3 : Int32} {M1 : MM} {la lb pa pb rl : Nat} (L : Lay M la lb pa pb rl)
    (qM1 : M1 = wi M 130 0 0)
    (k1 : K0 g YX12_trade YX12_isHall d 10 [.ref 130, .int i1] [(0, .ref 130), (1, .int i1), (2, .int i2), (3, .int i3)] [] M1 P) :
    E0 g YX12_trade d 0 [(0, .ref 130), (1, .int i1), (2, .int i2), (3, .int i3)] [] M P := by
  have f1 : ob M 130 12 := L.s rfl (by decide)
  subst qM1
  refine x_aload_n dX12_trade_0 0 rfl ?_
  refine x_iconst (v := 0) dX12_trade_1 (by decide) ?_
  refine x_putI fdX12_138 rfl (Or.inl rfl) dX12_trade_2 f1.1 f1.2 rfl rfl ?_
  refine x_aload_n dX12_trade_5 0 rfl ?_
  refine x_iload_n dX12_trade_6 1 rfl ?_
  refine EX.sub [0, 1, 2, 3] (K0.v (As := [.int i1]) (st := []) cvX12_350 dX12_trade_7 rfl rfl f1 rfl (Nat.le_of_ble_eq_true rfl) (k1)) rfl
set_option maxRecDepth 8000 in
theorem qX12_trade_10 {g : GG} {d : Nat} {M : MM} {P : Option Value → MM → Prop} {i1 : Int32} {i2 : Int32} {i3 : Int32} {s0 : Int32} {la lb pa pb rl : Nat} (L : Lay M la lb pa pb rl)
    (k1 : s0 = 0 → P (some (.int 0)) M)
    (k2 : ¬ (s0 = 0) → K0 g YX12_trade YX12_isHall d 18 [.ref 130, .int i2] [(0, .ref 130), (1, .int i1), (2, .int i2), (3, .int i3)] [] M P) :
    E0 g YX12_trade d 10 [(0, .ref 130), (1, .int i1), (2, .int i2), (3, .int i3)] [.int s0] M P := by
  have f1 : ob M 130 12 := L.s rfl (by decide)
  refine x_if_eq 49 dX12_trade_10 (by decide) (fun c1 => ?_) (fun c1 => ?_)
  · refine x_iconst (v := 0) dX12_trade_49 (by decide) ?_
    exact x_zret rfl dX12_trade_50 rfl (Nat.le_refl _) (Nat.le_refl _) (k1 c1)
  · refine x_aload_n dX12_trade_13 0 rfl ?_
    refine x_iload_n dX12_trade_14 2 rfl ?_
    refine EX.sub [0, 1, 2, 3] (K0.v (As := [.int i2]) (st := []) cvX12_350 dX12_trade_15 rfl rfl f1 rfl (Nat.le_of_ble_eq_true rfl) (k2 c1)) rfl
set_option maxRecDepth 8000 in
theorem qX12_trade_18 {g : GG} {d : Nat} {M : MM} {P : Option Value → MM → Prop} {i1 : Int32} {i2 : Int32} {i3 : Int32} {s0 : Int32} {la lb pa pb rl : Nat} (L : Lay M la lb pa pb rl)
    (k1 : s0 = 0 → P (some (.int 0)) M)
    (k2 : ¬ (s0 = 0) → i1 = i2 → P (some (.int 0)) M)
    (k3 : ¬ (s0 = 0) → ¬ (i1 = i2) → K0 g YX12_trade YX12_isShot d 31 [.ref 130, .int i3] [(0, .ref 130), (1, .int i1), (2, .int i2), (3, .int i3)] [] M P) :
    E0 g YX12_trade d 18 [(0, .ref 130), (1, .int i1), (2, .int i2), (3, .int i3)] [.int s0] M P := by
  have f1 : ob M 130 12 := L.s rfl (by decide)
  refine x_if_eq 49 dX12_trade_18 (by decide) (fun c1 => ?_) (fun c1 => ?_)
  · refine x_iconst (v := 0) dX12_trade_49 (by decide) ?_
    exact x_zret rfl dX12_trade_50 rfl (Nat.le_refl _) (Nat.le_refl _) (k1 c1)
  · refine x_iload_n dX12_trade_21 1 rfl ?_
    refine x_iload_n dX12_trade_22 2 rfl ?_
    refine x_ic_eq 49 dX12_trade_23 (by decide) (fun c2 => ?_) (fun c2 => ?_)
    · refine x_iconst (v := 0) dX12_trade_49 (by decide) ?_
      exact x_zret rfl dX12_trade_50 rfl (Nat.le_refl _) (Nat.le_refl _) (k2 c1 c2)
    · refine x_aload_n dX12_trade_26 0 rfl ?_
      refine x_iload_n dX12_trade_27 3 rfl ?_
      refine EX.sub [0, 1, 2, 3] (K0.v (As := [.int i3]) (st := []) cvX12_347 dX12_trade_28 rfl rfl f1 rfl (Nat.le_of_ble_eq_true rfl) (k3 c1 c2)) rfl
set_option maxRecDepth 8000 in
theorem qX12_trade_31 {g : GG} {d : Nat} {M : MM} {P : Option Value → MM → Prop} {i1 : Int32} {i2 : Int32} {i3 : Int32} {s0 : Int32} {la lb pa pb rl : Nat} (L : Lay M la lb pa pb rl)
    (h1 : ¬ (s0 = 0) → vp_in (9 + i3) 19)
    (k1 : s0 = 0 → P (some (.int 0)) M)
    (k2 : ¬ (s0 = 0) → (mi M 162 ((9 + i3) : Int32).toNatClampNeg) = (i1 + 1) → K0 g YX12_trade YX12_keeps d 55 [.ref 130] [(0, .ref 130), (2, .int i2), (3, .int i3)] [] M P)
    (k3 : ¬ (s0 = 0) → ¬ ((mi M 162 ((9 + i3) : Int32).toNatClampNeg) = (i1 + 1)) → P (some (.int 0)) M) :
    E0 g YX12_trade d 31 [(0, .ref 130), (1, .int i1), (2, .int i2), (3, .int i3)] [.int s0] M P := by
  have f1 : ob M 130 12 := L.s rfl (by decide)
  have f2 : mr M 130 43 = some 162 := L.r 157 rfl
  have f3 : ar M 162 1 19 := L.s rfl (by decide)
  refine x_if_eq 49 dX12_trade_31 (by decide) (fun c1 => ?_) (fun c1 => ?_)
  · refine x_iconst (v := 0) dX12_trade_49 (by decide) ?_
    exact x_zret rfl dX12_trade_50 rfl (Nat.le_refl _) (Nat.le_refl _) (k1 c1)
  · refine x_aload_n dX12_trade_34 0 rfl ?_
    refine x_getR fdX12_105 rfl dX12_trade_35 f1.1 f1.2 f2 ?_
    refine x_bipush (v := 9) dX12_trade_38 (by decide) ?_
    refine x_iload_n dX12_trade_40 3 rfl ?_
    refine x_iadd dX12_trade_41 ?_
    refine x_iald dX12_trade_42 f3.1 f3.2 (h1 c1) ?_
    refine x_iload_n dX12_trade_43 1 rfl ?_
    refine x_iconst (v := 1) dX12_trade_44 (by decide) ?_
    refine x_iadd dX12_trade_45 ?_
    refine x_ic_eq 51 dX12_trade_46 (by decide) (fun c2 => ?_) (fun c2 => ?_)
    · refine x_aload_n dX12_trade_51 0 rfl ?_
      refine EX.sub [0, 2, 3] (K0.v (As := []) (st := []) cvX12_363 dX12_trade_52 rfl rfl f1 rfl (Nat.le_of_ble_eq_true rfl) (k2 c1 c2)) rfl
    · refine x_iconst (v := 0) dX12_trade_49 (by decide) ?_
      exact x_zret rfl dX12_trade_50 rfl (Nat.le_refl _) (Nat.le_refl _) (k3 c1 c2)
set_option maxRecDepth 8000 in
theorem qX12_trade_55 {g : GG} {d : Nat} {M : MM} {P : Option Value → MM → Prop} {i2 : Int32} {i3 : Int32} {M1 : MM} {la lb pa pb rl : Nat} (L : Lay M la lb pa pb rl)
    (qM1 : M1 = wi M 162 ((9 + i3) : Int32).toNatClampNeg (i2 + 1))
    (h1 : vp_in (9 + i3) 19)
    (k1 : P (some (.int 1)) M1) :
    E0 g YX12_trade d 55 [(0, .ref 130), (2, .int i2), (3, .int i3)] [] M P := by
  have f1 : ob M 130 12 := L.s rfl (by decide)
  have f2 : mr M 130 43 = some 162 := L.r 157 rfl
  have f3 : ar M 162 1 19 := L.s rfl (by decide)
  subst qM1
  refine x_aload_n dX12_trade_55 0 rfl ?_
  refine x_getR fdX12_105 rfl dX12_trade_56 f1.1 f1.2 f2 ?_
  refine x_bipush (v := 9) dX12_trade_59 (by decide) ?_
  refine x_iload_n dX12_trade_61 2 rfl ?_
  refine x_iadd dX12_trade_62 ?_
  refine x_iload_n dX12_trade_63 1 rfl ?_
  refine x_iconst (v := 1) dX12_trade_64 (by decide) ?_
  refine x_iadd dX12_trade_65 ?_
  refine x_iast dX12_trade_66 f3.1 f3.2 (h1) ?_
  refine x_iconst (v := 1) dX12_trade_67 (by decide) ?_
  exact x_zret rfl dX12_trade_68 rfl (Nat.le_refl _) (Nat.le_refl _) (k1)
set_option maxRecDepth 8000 in
theorem qX12_nextHall_0 {g : GG} {d : Nat} {M : MM} {P : Option Value → MM → Prop}  {la lb pa pb rl : Nat} (L : Lay M la lb pa pb rl)
    (h1 : ¬ (mi M 132 1) = 0 → vp_in (3 + (mi M 162 1)) 19)
    (k1 : ¬ (mi M 132 1) = 0 → P (some (.int (mi M 162 ((3 + (mi M 162 1)) : Int32).toNatClampNeg))) M)
    (k2 : (mi M 132 1) = 0 → P (some (.int (-1))) M) :
    E0 g YX12_nextHall d 0 [(0, .ref 130)] [] M P := by
  have f1 : ob M 130 12 := L.s rfl (by decide)
  have f2 : mr M 130 10 = some 132 := L.r 127 rfl
  have f3 : ar M 132 1 4 := L.s rfl (by decide)
  have f4 : mr M 130 43 = some 162 := L.r 157 rfl
  have f5 : ar M 162 1 19 := L.s rfl (by decide)
  refine x_aload_n dX12_nextHall_0 0 rfl ?_
  refine x_getR fdX12_13 rfl dX12_nextHall_1 f1.1 f1.2 f2 ?_
  refine x_iconst (v := 1) dX12_nextHall_4 (by decide) ?_
  refine x_iald dX12_nextHall_5 f3.1 f3.2 (by unfold vp_in; decide) ?_
  refine x_if_ne 13 dX12_nextHall_6 (by decide) (fun c1 => ?_) (fun c1 => ?_)
  · refine x_aload_n dX12_nextHall_13 0 rfl ?_
    refine x_getR fdX12_105 rfl dX12_nextHall_14 f1.1 f1.2 f4 ?_
    refine x_iconst (v := 3) dX12_nextHall_17 (by decide) ?_
    refine x_aload_n dX12_nextHall_18 0 rfl ?_
    refine x_getR fdX12_105 rfl dX12_nextHall_19 f1.1 f1.2 f4 ?_
    refine x_iconst (v := 1) dX12_nextHall_22 (by decide) ?_
    refine x_iald dX12_nextHall_23 f5.1 f5.2 (by unfold vp_in; decide) ?_
    refine x_iadd dX12_nextHall_24 ?_
    refine x_iald dX12_nextHall_25 f5.1 f5.2 (h1 c1) ?_
    exact x_iret rfl dX12_nextHall_26 (Nat.le_refl _) (Nat.le_refl _) (k1 c1)
  · refine x_iconst (v := (-1)) dX12_nextHall_9 (by decide) ?_
    refine x_goto 26 dX12_nextHall_10 (by decide) ?_
    exact x_iret rfl dX12_nextHall_26 (Nat.le_refl _) (Nat.le_refl _) (k2 c1)
set_option maxRecDepth 8000 in
theorem qX12_turn_0 {g : GG} {d : Nat} {M : MM} {P : Option Value → MM → Prop}  {M1 : MM} {la lb pa pb rl : Nat} (L : Lay M la lb pa pb rl)
    (qM1 : M1 = wi M 130 0 0)
    (k1 : K0 g YX12_turn YX12_keeps d 9 [.ref 130] [(0, .ref 130)] [] M1 P) :
    E0 g YX12_turn d 0 [(0, .ref 130)] [] M P := by
  have f1 : ob M 130 12 := L.s rfl (by decide)
  subst qM1
  refine x_aload_n dX12_turn_0 0 rfl ?_
  refine x_iconst (v := 0) dX12_turn_1 (by decide) ?_
  refine x_putI fdX12_138 rfl (Or.inl rfl) dX12_turn_2 f1.1 f1.2 rfl rfl ?_
  refine x_aload_n dX12_turn_5 0 rfl ?_
  refine EX.sub [0] (K0.v (As := []) (st := []) cvX12_363 dX12_turn_6 rfl rfl f1 rfl (Nat.le_of_ble_eq_true rfl) (k1)) rfl
set_option maxRecDepth 8000 in
theorem qX12_turn_9 {g : GG} {d : Nat} {M : MM} {P : Option Value → MM → Prop}  {la lb pa pb rl : Nat} (L : Lay M la lb pa pb rl)
    (k1 : K0 g YX12_turn YX12_turns d 13 [.ref 130] [(0, .ref 130)] [] M P) :
    E0 g YX12_turn d 9 [(0, .ref 130)] [] M P := by
  have f1 : ob M 130 12 := L.s rfl (by decide)
  refine x_aload_n dX12_turn_9 0 rfl ?_
  refine EX.sub [0] (K0.v (As := []) (st := []) cvX12_378 dX12_turn_10 rfl rfl f1 rfl (Nat.le_of_ble_eq_true rfl) (k1)) rfl
set_option maxRecDepth 8000 in
theorem qX12_turn_13 {g : GG} {d : Nat} {M : MM} {P : Option Value → MM → Prop}  {la lb pa pb rl : Nat} (L : Lay M la lb pa pb rl)
    (k1 : K0 g YX12_turn YX12_nextHall d 17 [.ref 130] [] [] M P) :
    E0 g YX12_turn d 13 [(0, .ref 130)] [] M P := by
  have f1 : ob M 130 12 := L.s rfl (by decide)
  refine x_aload_n dX12_turn_13 0 rfl ?_
  refine EX.sub [] (K0.v (As := []) (st := []) cvX12_381 dX12_turn_14 rfl rfl f1 rfl (Nat.le_of_ble_eq_true rfl) (k1)) rfl
set_option maxRecDepth 8000 in
theorem qX12_turn_17 {g : GG} {d : Nat} {M : MM} {P : Option Value → MM → Prop} {s0 : Int32}
    (k1 : P (some (.int s0)) M) :
    E0 g YX12_turn d 17 [] [.int s0] M P := by
  exact x_iret rfl dX12_turn_17 (Nat.le_refl _) (Nat.le_refl _) (k1)
set_option maxRecDepth 8000 in
theorem qX12_undo_0 {g : GG} {d : Nat} {M : MM} {P : Option Value → MM → Prop}  {M1 : MM} {M2 : MM} {la lb pa pb rl : Nat} (L : Lay M la lb pa pb rl)
    (qM1 : M1 = wi M 130 0 0)
    (qM2 : M2 = wi M1 130 49 ((mi M1 130 49) - 1))
    (k1 : ¬ (mi M1 130 49) = 0 → K0 g YX12_undo YX12_copies d 43 [.ref 166, .int (19 * (mi M2 130 49)), .ref 162, .int 0] [] [] M2 P)
    (k2 : (mi M1 130 49) = 0 → P (some (.int 0)) M1) :
    E0 g YX12_undo d 0 [(0, .ref 130)] [] M P := by
  have f1 : ob M 130 12 := L.s rfl (by decide)
  have f2 : mr M 130 47 = some 166 := L.r 161 rfl
  have f3 : mr M 130 43 = some 162 := L.r 157 rfl
  subst qM1 qM2
  let M1 : MM := wi M 130 0 0
  let M2 : MM := wi M1 130 49 ((mi M1 130 49) - 1)
  refine x_aload_n dX12_undo_0 0 rfl ?_
  refine x_iconst (v := 0) dX12_undo_1 (by decide) ?_
  refine x_putI fdX12_138 rfl (Or.inl rfl) dX12_undo_2 f1.1 f1.2 rfl rfl ?_
  refine x_aload_n dX12_undo_5 0 rfl ?_
  refine x_getI fdX12_323 rfl dX12_undo_6 f1.1 f1.2 ?_
  refine x_if_ne 14 dX12_undo_9 (by decide) (fun c1 => ?_) (fun c1 => ?_)
  · refine x_aload_n dX12_undo_14 0 rfl ?_
    refine x_dup dX12_undo_15 rfl ?_
    refine x_getI fdX12_323 rfl dX12_undo_16 f1.1 f1.2 ?_
    refine x_iconst (v := 1) dX12_undo_19 (by decide) ?_
    refine x_isub dX12_undo_20 ?_
    refine x_putI fdX12_323 rfl (Or.inl rfl) dX12_undo_21 f1.1 f1.2 rfl rfl ?_
    refine x_aload_n dX12_undo_24 0 rfl ?_
    refine x_getR fdX12_117 rfl dX12_undo_25 f1.1 f1.2 f2 ?_
    refine x_bipush (v := 19) dX12_undo_28 (by decide) ?_
    refine x_aload_n dX12_undo_30 0 rfl ?_
    refine x_getI fdX12_323 rfl dX12_undo_31 f1.1 f1.2 ?_
    refine x_imul dX12_undo_34 ?_
    refine x_aload_n dX12_undo_35 0 rfl ?_
    refine x_getR fdX12_105 rfl dX12_undo_36 f1.1 f1.2 f3 ?_
    refine x_iconst (v := 0) dX12_undo_39 (by decide) ?_
    refine EX.sub [] (K0.s (As := [.ref 166, .int (19 * (mi M2 130 49)), .ref 162, .int 0]) (st := []) csX12_359 dX12_undo_40 rfl rfl (Nat.le_of_ble_eq_true rfl) (k1 c1)) rfl
  · refine x_iconst (v := 0) dX12_undo_12 (by decide) ?_
    exact x_zret rfl dX12_undo_13 rfl (Nat.le_refl _) (Nat.le_refl _) (k2 c1)
set_option maxRecDepth 8000 in
theorem qX12_undo_43 {g : GG} {d : Nat} {M : MM} {P : Option Value → MM → Prop} 
    (k1 : P (some (.int 1)) M) :
    E0 g YX12_undo d 43 [] [] M P := by
  refine x_iconst (v := 1) dX12_undo_43 (by decide) ?_
  exact x_zret rfl dX12_undo_44 rfl (Nat.le_refl _) (Nat.le_refl _) (k1)
set_option maxRecDepth 8000 in
theorem qX12_goes_0 {g : GG} {d : Nat} {M : MM} {P : Option Value → MM → Prop} {i1 : Int32} {M1 : MM} {la lb pa pb rl : Nat} (L : Lay M la lb pa pb rl)
    (qM1 : M1 = wi M 162 ((9 + (mi M 158 (i1 : Int32).toNatClampNeg)) : Int32).toNatClampNeg ((mi M 157 (i1 : Int32).toNatClampNeg) + 1))
    (h1 : vp_in i1 240)
    (h2 : vp_in i1 240)
    (h3 : ¬ (mi M 155 (i1 : Int32).toNatClampNeg) = 0 → ¬ (mi M 155 (i1 : Int32).toNatClampNeg) = 3 → vp_in (9 + (mi M 158 (i1 : Int32).toNatClampNeg)) 19)
    (h4 : ¬ (mi M 155 (i1 : Int32).toNatClampNeg) = 0 → ¬ (mi M 155 (i1 : Int32).toNatClampNeg) = 3 → vp_in i1 240)
    (h5 : ¬ (mi M 155 (i1 : Int32).toNatClampNeg) = 0 → ¬ (mi M 155 (i1 : Int32).toNatClampNeg) = 3 → (mi M 162 ((9 + (mi M 158 (i1 : Int32).toNatClampNeg)) : Int32).toNatClampNeg) = ((mi M 156 (i1 : Int32).toNatClampNeg) + 1) → ¬ (mi M 155 (i1 : Int32).toNatClampNeg) = 1 → vp_in i1 240)
    (h6 : ¬ (mi M 155 (i1 : Int32).toNatClampNeg) = 0 → ¬ (mi M 155 (i1 : Int32).toNatClampNeg) = 3 → (mi M 162 ((9 + (mi M 158 (i1 : Int32).toNatClampNeg)) : Int32).toNatClampNeg) = ((mi M 156 (i1 : Int32).toNatClampNeg) + 1) → ¬ (mi M 155 (i1 : Int32).toNatClampNeg) = 1 → vp_in (9 + (mi M 158 (i1 : Int32).toNatClampNeg)) 19)
    (k1 : ¬ (mi M 155 (i1 : Int32).toNatClampNeg) = 0 → ¬ (mi M 155 (i1 : Int32).toNatClampNeg) = 3 → (mi M 162 ((9 + (mi M 158 (i1 : Int32).toNatClampNeg)) : Int32).toNatClampNeg) = ((mi M 156 (i1 : Int32).toNatClampNeg) + 1) → ¬ (mi M 155 (i1 : Int32).toNatClampNeg) = 1 → P (some (.int 1)) M1)
    (k2 : ¬ (mi M 155 (i1 : Int32).toNatClampNeg) = 0 → ¬ (mi M 155 (i1 : Int32).toNatClampNeg) = 3 → (mi M 162 ((9 + (mi M 158 (i1 : Int32).toNatClampNeg)) : Int32).toNatClampNeg) = ((mi M 156 (i1 : Int32).toNatClampNeg) + 1) → (mi M 155 (i1 : Int32).toNatClampNeg) = 1 → K0 g YX12_goes YX12_goesBack d 80 [.ref 130, .int (mi M 158 (i1 : Int32).toNatClampNeg)] [] [] M P)
    (k3 : ¬ (mi M 155 (i1 : Int32).toNatClampNeg) = 0 → ¬ (mi M 155 (i1 : Int32).toNatClampNeg) = 3 → ¬ ((mi M 162 ((9 + (mi M 158 (i1 : Int32).toNatClampNeg)) : Int32).toNatClampNeg) = ((mi M 156 (i1 : Int32).toNatClampNeg) + 1)) → P (some (.int 0)) M)
    (k4 : ¬ (mi M 155 (i1 : Int32).toNatClampNeg) = 0 → (mi M 155 (i1 : Int32).toNatClampNeg) = 3 → K0 g YX12_goes YX12_turns d 45 [.ref 130] [] [] M P)
    (k5 : (mi M 155 (i1 : Int32).toNatClampNeg) = 0 → ¬ (mi M 132 1) = 0 → K0 g YX12_goes YX12_shows d 33 [.ref 130] [] [] M P)
    (k6 : (mi M 155 (i1 : Int32).toNatClampNeg) = 0 → (mi M 132 1) = 0 → P (some (.int 0)) M) :
    E0 g YX12_goes d 0 [(0, .ref 130), (1, .int i1)] [] M P := by
  have f1 : ob M 130 12 := L.s rfl (by decide)
  have f2 : mr M 130 36 = some 155 := L.r 150 rfl
  have f3 : ar M 155 1 240 := L.s rfl (by decide)
  have f4 : mr M 130 39 = some 158 := L.r 153 rfl
  have f5 : ar M 158 1 240 := L.s rfl (by decide)
  have f6 : mr M 130 43 = some 162 := L.r 157 rfl
  have f7 : ar M 162 1 19 := L.s rfl (by decide)
  have f8 : mr M 130 37 = some 156 := L.r 151 rfl
  have f9 : ar M 156 1 240 := L.s rfl (by decide)
  have f10 : mr M 130 38 = some 157 := L.r 152 rfl
  have f11 : ar M 157 1 240 := L.s rfl (by decide)
  have f12 : mr M 130 10 = some 132 := L.r 127 rfl
  have f13 : ar M 132 1 4 := L.s rfl (by decide)
  subst qM1
  refine x_aload_n dX12_goes_0 0 rfl ?_
  refine x_getR fdX12_84 rfl dX12_goes_1 f1.1 f1.2 f2 ?_
  refine x_iload_n dX12_goes_4 1 rfl ?_
  refine x_iald dX12_goes_5 f3.1 f3.2 (h1) ?_
  refine x_istore_n (lv1 := [(2, .int (mi M 155 (i1 : Int32).toNatClampNeg)), (0, .ref 130), (1, .int i1)]) dX12_goes_6 (by decide) rfl ?_
  refine x_aload_n dX12_goes_7 1 rfl ?_
  refine x_getR fdX12_93 rfl dX12_goes_8 f1.1 f1.2 f4 ?_
  refine x_iload_n dX12_goes_11 2 rfl ?_
  refine x_iald dX12_goes_12 f5.1 f5.2 (h2) ?_
  refine x_istore_n (lv1 := [(3, .int (mi M 158 (i1 : Int32).toNatClampNeg)), (2, .int (mi M 155 (i1 : Int32).toNatClampNeg)), (0, .ref 130), (1, .int i1)]) dX12_goes_13 (by decide) rfl ?_
  refine x_iload_n dX12_goes_14 1 rfl ?_
  refine x_if_ne 36 dX12_goes_15 (by decide) (fun c1 => ?_) (fun c1 => ?_)
  · refine x_iload_n dX12_goes_36 1 rfl ?_
    refine x_iconst (v := 3) dX12_goes_37 (by decide) ?_
    refine x_ic_ne 48 dX12_goes_38 (by decide) (fun c2 => ?_) (fun c2 => ?_)
    · refine x_aload_n dX12_goes_48 2 rfl ?_
      refine x_getR fdX12_105 rfl dX12_goes_49 f1.1 f1.2 f6 ?_
      refine x_bipush (v := 9) dX12_goes_52 (by decide) ?_
      refine x_iload_n dX12_goes_54 0 rfl ?_
      refine x_iadd dX12_goes_55 ?_
      refine x_iald dX12_goes_56 f7.1 f7.2 (h3 c1 c2) ?_
      refine x_aload_n dX12_goes_57 2 rfl ?_
      refine x_getR fdX12_87 rfl dX12_goes_58 f1.1 f1.2 f8 ?_
      refine x_iload_n dX12_goes_61 3 rfl ?_
      refine x_iald dX12_goes_62 f9.1 f9.2 (h4 c1 c2) ?_
      refine x_iconst (v := 1) dX12_goes_63 (by decide) ?_
      refine x_iadd dX12_goes_64 ?_
      refine x_ic_eq 70 dX12_goes_65 (by decide) (fun c3 => ?_) (fun c3 => ?_)
      · refine x_iload_n dX12_goes_70 1 rfl ?_
        refine x_iconst (v := 1) dX12_goes_71 (by decide) ?_
        refine x_ic_ne 83 dX12_goes_72 (by decide) (fun c4 => ?_) (fun c4 => ?_)
        · refine x_aload_n dX12_goes_83 2 rfl ?_
          refine x_getR fdX12_105 rfl dX12_goes_84 f1.1 f1.2 f6 ?_
          refine x_bipush (v := 9) dX12_goes_87 (by decide) ?_
          refine x_iload_n dX12_goes_89 0 rfl ?_
          refine x_iadd dX12_goes_90 ?_
          refine x_aload_n dX12_goes_91 2 rfl ?_
          refine x_getR fdX12_90 rfl dX12_goes_92 f1.1 f1.2 f10 ?_
          refine x_iload_n dX12_goes_95 3 rfl ?_
          refine x_iald dX12_goes_96 f11.1 f11.2 (h5 c1 c2 c3 c4) ?_
          refine x_iconst (v := 1) dX12_goes_97 (by decide) ?_
          refine x_iadd dX12_goes_98 ?_
          refine x_iast dX12_goes_99 f7.1 f7.2 (h6 c1 c2 c3 c4) ?_
          refine x_iconst (v := 1) dX12_goes_100 (by decide) ?_
          exact x_zret rfl dX12_goes_101 rfl (Nat.le_refl _) (Nat.le_refl _) (k1 c1 c2 c3 c4)
        · refine x_aload_n dX12_goes_75 2 rfl ?_
          refine x_iload_n dX12_goes_76 0 rfl ?_
          refine EX.sub [] (K0.v (As := [.int (mi M 158 (i1 : Int32).toNatClampNeg)]) (st := []) cvX12_372 dX12_goes_77 rfl rfl f1 rfl (Nat.le_of_ble_eq_true rfl) (k2 c1 c2 c3 c4)) rfl
      · refine x_iconst (v := 0) dX12_goes_68 (by decide) ?_
        exact x_zret rfl dX12_goes_69 rfl (Nat.le_refl _) (Nat.le_refl _) (k3 c1 c2 c3)
    · refine x_aload_n dX12_goes_41 2 rfl ?_
      refine EX.sub [] (K0.v (As := []) (st := []) cvX12_378 dX12_goes_42 rfl rfl f1 rfl (Nat.le_of_ble_eq_true rfl) (k4 c1 c2)) rfl
  · refine x_aload_n dX12_goes_18 2 rfl ?_
    refine x_getR fdX12_13 rfl dX12_goes_19 f1.1 f1.2 f12 ?_
    refine x_iconst (v := 1) dX12_goes_22 (by decide) ?_
    refine x_iald dX12_goes_23 f13.1 f13.2 (by unfold vp_in; decide) ?_
    refine x_if_ne 29 dX12_goes_24 (by decide) (fun c2 => ?_) (fun c2 => ?_)
    · refine x_aload_n dX12_goes_29 2 rfl ?_
      refine EX.sub [] (K0.v (As := []) (st := []) cvX12_366 dX12_goes_30 rfl rfl f1 rfl (Nat.le_of_ble_eq_true rfl) (k5 c1 c2)) rfl
    · refine x_iconst (v := 0) dX12_goes_27 (by decide) ?_
      exact x_zret rfl dX12_goes_28 rfl (Nat.le_refl _) (Nat.le_refl _) (k6 c1 c2)
set_option maxRecDepth 8000 in
theorem qX12_goes_33 {g : GG} {d : Nat} {M : MM} {P : Option Value → MM → Prop} 
    (k1 : P (some (.int 1)) M) :
    E0 g YX12_goes d 33 [] [] M P := by
  refine x_goto 100 dX12_goes_33 (by decide) ?_
  refine x_iconst (v := 1) dX12_goes_100 (by decide) ?_
  exact x_zret rfl dX12_goes_101 rfl (Nat.le_refl _) (Nat.le_refl _) (k1)
set_option maxRecDepth 8000 in
theorem qX12_goes_45 {g : GG} {d : Nat} {M : MM} {P : Option Value → MM → Prop} 
    (k1 : P (some (.int 1)) M) :
    E0 g YX12_goes d 45 [] [] M P := by
  refine x_goto 100 dX12_goes_45 (by decide) ?_
  refine x_iconst (v := 1) dX12_goes_100 (by decide) ?_
  exact x_zret rfl dX12_goes_101 rfl (Nat.le_refl _) (Nat.le_refl _) (k1)
set_option maxRecDepth 8000 in
theorem qX12_goes_80 {g : GG} {d : Nat} {M : MM} {P : Option Value → MM → Prop} 
    (k1 : P (some (.int 1)) M) :
    E0 g YX12_goes d 80 [] [] M P := by
  refine x_goto 100 dX12_goes_80 (by decide) ?_
  refine x_iconst (v := 1) dX12_goes_100 (by decide) ?_
  exact x_zret rfl dX12_goes_101 rfl (Nat.le_refl _) (Nat.le_refl _) (k1)
set_option maxRecDepth 8000 in
theorem qX12_judged_0 {g : GG} {d : Nat} {M : MM} {P : Option Value → MM → Prop} {i1 : Int32} {M1 : MM} {la lb pa pb rl : Nat} (L : Lay M la lb pa pb rl)
    (qM1 : M1 = wi M 130 0 0)
    (k1 : K0 g YX12_judged YX12_within d 11 [.int i1, .int 0, .int 2] [(0, .ref 130), (1, .int i1)] [] M1 P) :
    E0 g YX12_judged d 0 [(0, .ref 130), (1, .int i1)] [] M P := by
  have f1 : ob M 130 12 := L.s rfl (by decide)
  subst qM1
  refine x_aload_n dX12_judged_0 0 rfl ?_
  refine x_iconst (v := 0) dX12_judged_1 (by decide) ?_
  refine x_putI fdX12_138 rfl (Or.inl rfl) dX12_judged_2 f1.1 f1.2 rfl rfl ?_
  refine x_iload_n dX12_judged_5 1 rfl ?_
  refine x_iconst (v := 0) dX12_judged_6 (by decide) ?_
  refine x_iconst (v := 2) dX12_judged_7 (by decide) ?_
  refine EX.sub [0, 1] (K0.s (As := [.int i1, .int 0, .int 2]) (st := []) csX12_253 dX12_judged_8 rfl rfl (Nat.le_of_ble_eq_true rfl) (k1)) rfl
set_option maxRecDepth 8000 in
theorem qX12_judged_11 {g : GG} {d : Nat} {M : MM} {P : Option Value → MM → Prop} {i1 : Int32} {s0 : Int32} {la lb pa pb rl : Nat} (L : Lay M la lb pa pb rl)
    (k1 : ¬ s0 = 0 → K0 g YX12_judged YX12_copies d 30 [.ref 162, .int 0, .ref 163, .int 0] [(0, .ref 130), (1, .int i1)] [] M P)
    (k2 : s0 = 0 → P (some (.int (-2))) M) :
    E0 g YX12_judged d 11 [(0, .ref 130), (1, .int i1)] [.int s0] M P := by
  have f1 : ob M 130 12 := L.s rfl (by decide)
  have f2 : mr M 130 43 = some 162 := L.r 157 rfl
  have f3 : mr M 130 44 = some 163 := L.r 158 rfl
  refine x_if_ne 17 dX12_judged_11 (by decide) (fun c1 => ?_) (fun c1 => ?_)
  · refine x_aload_n dX12_judged_17 0 rfl ?_
    refine x_getR fdX12_105 rfl dX12_judged_18 f1.1 f1.2 f2 ?_
    refine x_iconst (v := 0) dX12_judged_21 (by decide) ?_
    refine x_aload_n dX12_judged_22 0 rfl ?_
    refine x_getR fdX12_108 rfl dX12_judged_23 f1.1 f1.2 f3 ?_
    refine x_iconst (v := 0) dX12_judged_26 (by decide) ?_
    refine EX.sub [0, 1] (K0.s (As := [.ref 162, .int 0, .ref 163, .int 0]) (st := []) csX12_359 dX12_judged_27 rfl rfl (Nat.le_of_ble_eq_true rfl) (k1 c1)) rfl
  · refine x_bipush (v := (-2)) dX12_judged_14 (by decide) ?_
    exact x_iret rfl dX12_judged_16 (Nat.le_refl _) (Nat.le_refl _) (k2 c1)
set_option maxRecDepth 8000 in
theorem qX12_judged_30 {g : GG} {d : Nat} {M : MM} {P : Option Value → MM → Prop} {i1 : Int32} {la lb pa pb rl : Nat} (L : Lay M la lb pa pb rl)
    (k1 : K0 g YX12_judged YX12_fresh d 34 [.ref 130] [(0, .ref 130), (1, .int i1)] [] M P) :
    E0 g YX12_judged d 30 [(0, .ref 130), (1, .int i1)] [] M P := by
  have f1 : ob M 130 12 := L.s rfl (by decide)
  refine x_aload_n dX12_judged_30 0 rfl ?_
  refine EX.sub [0, 1] (K0.v (As := []) (st := []) cvX12_135 dX12_judged_31 rfl rfl f1 rfl (Nat.le_of_ble_eq_true rfl) (k1)) rfl
set_option maxRecDepth 8000 in
theorem qX12_judged_34 {g : GG} {d : Nat} {M : MM} {P : Option Value → MM → Prop} {i1 : Int32}
    (k1 : E0 g YX12_judged d 44 [(0, .ref 130), (1, .int i1), (2, .int (-1)), (3, .int (-1)), (4, .int 0), (5, .int 0)] [] M P) :
    E0 g YX12_judged d 34 [(0, .ref 130), (1, .int i1)] [] M P := by
  refine x_iconst (v := (-1)) dX12_judged_34 (by decide) ?_
  refine x_istore_n (lv1 := [(2, .int (-1)), (0, .ref 130), (1, .int i1)]) dX12_judged_35 (by decide) rfl ?_
  refine x_iconst (v := (-1)) dX12_judged_36 (by decide) ?_
  refine x_istore_n (lv1 := [(3, .int (-1)), (2, .int (-1)), (0, .ref 130), (1, .int i1)]) dX12_judged_37 (by decide) rfl ?_
  refine x_iconst (v := 0) dX12_judged_38 (by decide) ?_
  refine x_istore (lv1 := [(4, .int 0), (3, .int (-1)), (2, .int (-1)), (0, .ref 130), (1, .int i1)]) dX12_judged_39 (by decide) rfl ?_
  refine x_iconst (v := 0) dX12_judged_41 (by decide) ?_
  refine x_istore (lv1 := [(5, .int 0), (4, .int 0), (3, .int (-1)), (2, .int (-1)), (0, .ref 130), (1, .int i1)]) dX12_judged_42 (by decide) rfl ?_
  exact EX.sub [4, 5, 3, 2, 1, 0] k1 rfl
set_option maxRecDepth 8000 in
theorem qX12_judged_44 {g : GG} {d : Nat} {M : MM} {P : Option Value → MM → Prop} {i1 : Int32} {i2 : Int32} {i3 : Int32} {i4 : Int32} {i5 : Int32} {la lb pa pb rl : Nat} (L : Lay M la lb pa pb rl)
    (k1 : (mi M 154 0) ≤ i5 → K0 g YX12_judged YX12_copies d 147 [.ref 163, .int 0, .ref 162, .int 0] [(1, .int i1), (2, .int i2), (3, .int i3), (4, .int i4)] [] M P)
    (k2 : ¬ ((mi M 154 0) ≤ i5) → K0 g YX12_judged YX12_goes d 61 [.ref 130, .int i5] [(0, .ref 130), (1, .int i1), (2, .int i2), (3, .int i3), (4, .int i4), (5, .int i5)] [] M P) :
    E0 g YX12_judged d 44 [(0, .ref 130), (1, .int i1), (2, .int i2), (3, .int i3), (4, .int i4), (5, .int i5)] [] M P := by
  have f1 : ob M 130 12 := L.s rfl (by decide)
  have f2 : mr M 130 35 = some 154 := L.r 149 rfl
  have f3 : ar M 154 1 6 := L.s rfl (by decide)
  have f4 : mr M 130 44 = some 163 := L.r 158 rfl
  have f5 : mr M 130 43 = some 162 := L.r 157 rfl
  refine x_iload dX12_judged_44 5 rfl ?_
  refine x_aload_n dX12_judged_46 0 rfl ?_
  refine x_getR fdX12_81 rfl dX12_judged_47 f1.1 f1.2 f2 ?_
  refine x_iconst (v := 0) dX12_judged_50 (by decide) ?_
  refine x_iald dX12_judged_51 f3.1 f3.2 (by unfold vp_in; decide) ?_
  refine x_ic_ge 134 dX12_judged_52 (by decide) (fun c1 => ?_) (fun c1 => ?_)
  · refine x_aload_n dX12_judged_134 0 rfl ?_
    refine x_getR fdX12_108 rfl dX12_judged_135 f1.1 f1.2 f4 ?_
    refine x_iconst (v := 0) dX12_judged_138 (by decide) ?_
    refine x_aload_n dX12_judged_139 0 rfl ?_
    refine x_getR fdX12_105 rfl dX12_judged_140 f1.1 f1.2 f5 ?_
    refine x_iconst (v := 0) dX12_judged_143 (by decide) ?_
    refine EX.sub [1, 2, 3, 4] (K0.s (As := [.ref 163, .int 0, .ref 162, .int 0]) (st := []) csX12_359 dX12_judged_144 rfl rfl (Nat.le_of_ble_eq_true rfl) (k1 c1)) rfl
  · refine x_aload_n dX12_judged_55 0 rfl ?_
    refine x_iload dX12_judged_56 5 rfl ?_
    refine EX.sub [0, 1, 2, 3, 4, 5] (K0.v (As := [.int i5]) (st := []) cvX12_384 dX12_judged_58 rfl rfl f1 rfl (Nat.le_of_ble_eq_true rfl) (k2 c1)) rfl
set_option maxRecDepth 8000 in
theorem qX12_judged_61 {g : GG} {d : Nat} {M : MM} {P : Option Value → MM → Prop} {i1 : Int32} {i2 : Int32} {i3 : Int32} {i4 : Int32} {i5 : Int32} {s0 : Int32} {la lb pa pb rl : Nat} (L : Lay M la lb pa pb rl)
    (h1 : ¬ s0 = 0 → ¬ (s0 = 0) → vp_in i5 240)
    (h2 : s0 = 0 → 0 ≤ i2 → ¬ (s0 = 0) → vp_in i5 240)
    (h3 : s0 = 0 → ¬ (0 ≤ i2) → ¬ (s0 = 0) → vp_in i5 240)
    (k1 : ¬ s0 = 0 → s0 = 0 → E0 g YX12_judged d 44 [(0, .ref 130), (1, .int i1), (2, .int i2), (3, .int i3), (4, .int i4), (5, .int (i5 + 1))] [] M P)
    (k2 : ¬ s0 = 0 → ¬ (s0 = 0) → (mi M 155 (i5 : Int32).toNatClampNeg) = 0 → K0 g YX12_judged YX12_minutesOf d 105 [.ref 130, .int (mi M 162 0)] [(0, .ref 130), (1, .int i1), (2, .int i2), (3, .int i3), (5, .int i5)] [.int i4] M P)
    (k3 : ¬ s0 = 0 → ¬ (s0 = 0) → ¬ ((mi M 155 (i5 : Int32).toNatClampNeg) = 0) → E0 g YX12_judged d 44 [(0, .ref 130), (1, .int i1), (2, .int i2), (3, .int i3), (4, .int i4), (5, .int (i5 + 1))] [] M P)
    (k4 : s0 = 0 → 0 ≤ i2 → s0 = 0 → E0 g YX12_judged d 44 [(0, .ref 130), (1, .int i1), (2, .int i2), (3, .int i3), (4, .int i4), (5, .int (i5 + 1))] [] M P)
    (k5 : s0 = 0 → 0 ≤ i2 → ¬ (s0 = 0) → (mi M 155 (i5 : Int32).toNatClampNeg) = 0 → K0 g YX12_judged YX12_minutesOf d 105 [.ref 130, .int (mi M 162 0)] [(0, .ref 130), (1, .int i1), (2, .int i2), (3, .int i3), (5, .int i5)] [.int i4] M P)
    (k6 : s0 = 0 → 0 ≤ i2 → ¬ (s0 = 0) → ¬ ((mi M 155 (i5 : Int32).toNatClampNeg) = 0) → E0 g YX12_judged d 44 [(0, .ref 130), (1, .int i1), (2, .int i2), (3, .int i3), (4, .int i4), (5, .int (i5 + 1))] [] M P)
    (k7 : s0 = 0 → ¬ (0 ≤ i2) → s0 = 0 → E0 g YX12_judged d 44 [(0, .ref 130), (1, .int i1), (2, .int i5), (3, .int i3), (4, .int i4), (5, .int (i5 + 1))] [] M P)
    (k8 : s0 = 0 → ¬ (0 ≤ i2) → ¬ (s0 = 0) → (mi M 155 (i5 : Int32).toNatClampNeg) = 0 → K0 g YX12_judged YX12_minutesOf d 105 [.ref 130, .int (mi M 162 0)] [(0, .ref 130), (1, .int i1), (2, .int i5), (3, .int i3), (5, .int i5)] [.int i4] M P)
    (k9 : s0 = 0 → ¬ (0 ≤ i2) → ¬ (s0 = 0) → ¬ ((mi M 155 (i5 : Int32).toNatClampNeg) = 0) → E0 g YX12_judged d 44 [(0, .ref 130), (1, .int i1), (2, .int i5), (3, .int i3), (4, .int i4), (5, .int (i5 + 1))] [] M P) :
    E0 g YX12_judged d 61 [(0, .ref 130), (1, .int i1), (2, .int i2), (3, .int i3), (4, .int i4), (5, .int i5)] [.int s0] M P := by
  have f1 : ob M 130 12 := L.s rfl (by decide)
  have f2 : mr M 130 36 = some 155 := L.r 150 rfl
  have f3 : ar M 155 1 240 := L.s rfl (by decide)
  have f4 : mr M 130 43 = some 162 := L.r 157 rfl
  have f5 : ar M 162 1 19 := L.s rfl (by decide)
  refine x_istore (lv1 := [(6, .int s0), (0, .ref 130), (1, .int i1), (2, .int i2), (3, .int i3), (4, .int i4), (5, .int i5)]) dX12_judged_61 (by decide) rfl ?_
  refine x_iload dX12_judged_63 0 rfl ?_
  refine x_if_ne 75 dX12_judged_65 (by decide) (fun c1 => ?_) (fun c1 => ?_)
  · refine x_iload dX12_judged_75 0 rfl ?_
    refine x_if_eq 128 dX12_judged_77 (by decide) (fun c2 => ?_) (fun c2 => ?_)
    · refine x_iinc (v := (i5 + 1)) (lv1 := [(5, .int (i5 + 1)), (6, .int s0), (0, .ref 130), (1, .int i1), (2, .int i2), (3, .int i3), (4, .int i4)]) dX12_judged_128 6 rfl rfl (by decide) rfl ?_
      refine x_goto 44 dX12_judged_131 (by decide) ?_
      exact EX.sub [2, 3, 4, 5, 6, 0] (k1 c1 c2) rfl
    · refine x_aload_n dX12_judged_80 1 rfl ?_
      refine x_getR fdX12_84 rfl dX12_judged_81 f1.1 f1.2 f2 ?_
      refine x_iload dX12_judged_84 6 rfl ?_
      refine x_iald dX12_judged_86 f3.1 f3.2 (h1 c1 c2) ?_
      refine x_if_eq 93 dX12_judged_87 (by decide) (fun c3 => ?_) (fun c3 => ?_)
      · refine x_iload dX12_judged_93 5 rfl ?_
        refine x_aload_n dX12_judged_95 1 rfl ?_
        refine x_aload_n dX12_judged_96 1 rfl ?_
        refine x_getR fdX12_105 rfl dX12_judged_97 f1.1 f1.2 f4 ?_
        refine x_iconst (v := 0) dX12_judged_100 (by decide) ?_
        refine x_iald dX12_judged_101 f5.1 f5.2 (by unfold vp_in; decide) ?_
        refine EX.sub [1, 2, 3, 4, 6] (K0.v (As := [.int (mi M 162 0)]) (st := [.int i4]) cvX12_369 dX12_judged_102 rfl rfl f1 rfl (Nat.le_of_ble_eq_true rfl) (k2 c1 c2 c3)) rfl
      · refine x_goto 128 dX12_judged_90 (by decide) ?_
        refine x_iinc (v := (i5 + 1)) (lv1 := [(5, .int (i5 + 1)), (6, .int s0), (0, .ref 130), (1, .int i1), (2, .int i2), (3, .int i3), (4, .int i4)]) dX12_judged_128 6 rfl rfl (by decide) rfl ?_
        refine x_goto 44 dX12_judged_131 (by decide) ?_
        exact EX.sub [2, 3, 4, 5, 6, 0] (k3 c1 c2 c3) rfl
  · refine x_iload_n dX12_judged_68 3 rfl ?_
    refine x_if_ge 75 dX12_judged_69 (by decide) (fun c2 => ?_) (fun c2 => ?_)
    · refine x_iload dX12_judged_75 0 rfl ?_
      refine x_if_eq 128 dX12_judged_77 (by decide) (fun c3 => ?_) (fun c3 => ?_)
      · refine x_iinc (v := (i5 + 1)) (lv1 := [(5, .int (i5 + 1)), (6, .int s0), (0, .ref 130), (1, .int i1), (2, .int i2), (3, .int i3), (4, .int i4)]) dX12_judged_128 6 rfl rfl (by decide) rfl ?_
        refine x_goto 44 dX12_judged_131 (by decide) ?_
        exact EX.sub [2, 3, 4, 5, 6, 0] (k4 c1 c2 c3) rfl
      · refine x_aload_n dX12_judged_80 1 rfl ?_
        refine x_getR fdX12_84 rfl dX12_judged_81 f1.1 f1.2 f2 ?_
        refine x_iload dX12_judged_84 6 rfl ?_
        refine x_iald dX12_judged_86 f3.1 f3.2 (h2 c1 c2 c3) ?_
        refine x_if_eq 93 dX12_judged_87 (by decide) (fun c4 => ?_) (fun c4 => ?_)
        · refine x_iload dX12_judged_93 5 rfl ?_
          refine x_aload_n dX12_judged_95 1 rfl ?_
          refine x_aload_n dX12_judged_96 1 rfl ?_
          refine x_getR fdX12_105 rfl dX12_judged_97 f1.1 f1.2 f4 ?_
          refine x_iconst (v := 0) dX12_judged_100 (by decide) ?_
          refine x_iald dX12_judged_101 f5.1 f5.2 (by unfold vp_in; decide) ?_
          refine EX.sub [1, 2, 3, 4, 6] (K0.v (As := [.int (mi M 162 0)]) (st := [.int i4]) cvX12_369 dX12_judged_102 rfl rfl f1 rfl (Nat.le_of_ble_eq_true rfl) (k5 c1 c2 c3 c4)) rfl
        · refine x_goto 128 dX12_judged_90 (by decide) ?_
          refine x_iinc (v := (i5 + 1)) (lv1 := [(5, .int (i5 + 1)), (6, .int s0), (0, .ref 130), (1, .int i1), (2, .int i2), (3, .int i3), (4, .int i4)]) dX12_judged_128 6 rfl rfl (by decide) rfl ?_
          refine x_goto 44 dX12_judged_131 (by decide) ?_
          exact EX.sub [2, 3, 4, 5, 6, 0] (k6 c1 c2 c3 c4) rfl
    · refine x_iload dX12_judged_72 6 rfl ?_
      refine x_istore_n (lv1 := [(2, .int i5), (6, .int s0), (0, .ref 130), (1, .int i1), (3, .int i3), (4, .int i4), (5, .int i5)]) dX12_judged_74 (by decide) rfl ?_
      refine x_iload dX12_judged_75 1 rfl ?_
      refine x_if_eq 128 dX12_judged_77 (by decide) (fun c3 => ?_) (fun c3 => ?_)
      · refine x_iinc (v := (i5 + 1)) (lv1 := [(5, .int (i5 + 1)), (2, .int i5), (6, .int s0), (0, .ref 130), (1, .int i1), (3, .int i3), (4, .int i4)]) dX12_judged_128 6 rfl rfl (by decide) rfl ?_
        refine x_goto 44 dX12_judged_131 (by decide) ?_
        exact EX.sub [3, 4, 1, 5, 6, 0] (k7 c1 c2 c3) rfl
      · refine x_aload_n dX12_judged_80 2 rfl ?_
        refine x_getR fdX12_84 rfl dX12_judged_81 f1.1 f1.2 f2 ?_
        refine x_iload dX12_judged_84 6 rfl ?_
        refine x_iald dX12_judged_86 f3.1 f3.2 (h3 c1 c2 c3) ?_
        refine x_if_eq 93 dX12_judged_87 (by decide) (fun c4 => ?_) (fun c4 => ?_)
        · refine x_iload dX12_judged_93 5 rfl ?_
          refine x_aload_n dX12_judged_95 2 rfl ?_
          refine x_aload_n dX12_judged_96 2 rfl ?_
          refine x_getR fdX12_105 rfl dX12_judged_97 f1.1 f1.2 f4 ?_
          refine x_iconst (v := 0) dX12_judged_100 (by decide) ?_
          refine x_iald dX12_judged_101 f5.1 f5.2 (by unfold vp_in; decide) ?_
          refine EX.sub [2, 3, 0, 4, 6] (K0.v (As := [.int (mi M 162 0)]) (st := [.int i4]) cvX12_369 dX12_judged_102 rfl rfl f1 rfl (Nat.le_of_ble_eq_true rfl) (k8 c1 c2 c3 c4)) rfl
        · refine x_goto 128 dX12_judged_90 (by decide) ?_
          refine x_iinc (v := (i5 + 1)) (lv1 := [(5, .int (i5 + 1)), (2, .int i5), (6, .int s0), (0, .ref 130), (1, .int i1), (3, .int i3), (4, .int i4)]) dX12_judged_128 6 rfl rfl (by decide) rfl ?_
          refine x_goto 44 dX12_judged_131 (by decide) ?_
          exact EX.sub [3, 4, 1, 5, 6, 0] (k9 c1 c2 c3 c4) rfl
set_option maxRecDepth 8000 in
theorem qX12_judged_105 {g : GG} {d : Nat} {M : MM} {P : Option Value → MM → Prop} {i1 : Int32} {i2 : Int32} {i3 : Int32} {i5 : Int32} {s0 : Int32} {s1 : Int32} {la lb pa pb rl : Nat} (L : Lay M la lb pa pb rl)
    (k1 : 0 ≤ i3 → E0 g YX12_judged d 44 [(0, .ref 130), (1, .int i1), (2, .int i2), (3, .int i3), (4, .int (s0 + s1)), (5, .int (i5 + 1))] [] M P)
    (k2 : ¬ (0 ≤ i3) → K0 g YX12_judged YX12_makesSense d 122 [.ref 130, .int (mi M 162 0)] [(0, .ref 130), (1, .int i1), (2, .int i2), (3, .int i3), (4, .int (s0 + s1)), (5, .int i5)] [] M P) :
    E0 g YX12_judged d 105 [(0, .ref 130), (1, .int i1), (2, .int i2), (3, .int i3), (5, .int i5)] [.int s1, .int s0] M P := by
  have f1 : ob M 130 12 := L.s rfl (by decide)
  have f2 : mr M 130 43 = some 162 := L.r 157 rfl
  have f3 : ar M 162 1 19 := L.s rfl (by decide)
  refine x_iadd dX12_judged_105 ?_
  refine x_istore (lv1 := [(4, .int (s0 + s1)), (0, .ref 130), (1, .int i1), (2, .int i2), (3, .int i3), (5, .int i5)]) dX12_judged_106 (by decide) rfl ?_
  refine x_iload_n dX12_judged_108 4 rfl ?_
  refine x_if_ge 128 dX12_judged_109 (by decide) (fun c1 => ?_) (fun c1 => ?_)
  · refine x_iinc (v := (i5 + 1)) (lv1 := [(5, .int (i5 + 1)), (4, .int (s0 + s1)), (0, .ref 130), (1, .int i1), (2, .int i2), (3, .int i3)]) dX12_judged_128 5 rfl rfl (by decide) rfl ?_
    refine x_goto 44 dX12_judged_131 (by decide) ?_
    exact EX.sub [2, 3, 4, 5, 1, 0] (k1 c1) rfl
  · refine x_aload_n dX12_judged_112 1 rfl ?_
    refine x_aload_n dX12_judged_113 1 rfl ?_
    refine x_getR fdX12_105 rfl dX12_judged_114 f1.1 f1.2 f2 ?_
    refine x_iconst (v := 0) dX12_judged_117 (by decide) ?_
    refine x_iald dX12_judged_118 f3.1 f3.2 (by unfold vp_in; decide) ?_
    refine EX.sub [1, 2, 3, 4, 0, 5] (K0.v (As := [.int (mi M 162 0)]) (st := []) cvX12_387 dX12_judged_119 rfl rfl f1 rfl (Nat.le_of_ble_eq_true rfl) (k2 c1)) rfl
set_option maxRecDepth 8000 in
theorem qX12_judged_122 {g : GG} {d : Nat} {M : MM} {P : Option Value → MM → Prop} {i1 : Int32} {i2 : Int32} {i3 : Int32} {i4 : Int32} {i5 : Int32} {s0 : Int32}
    (k1 : ¬ s0 = 0 → E0 g YX12_judged d 44 [(0, .ref 130), (1, .int i1), (2, .int i2), (3, .int i3), (4, .int i4), (5, .int (i5 + 1))] [] M P)
    (k2 : s0 = 0 → E0 g YX12_judged d 44 [(0, .ref 130), (1, .int i1), (2, .int i2), (3, .int i5), (4, .int i4), (5, .int (i5 + 1))] [] M P) :
    E0 g YX12_judged d 122 [(0, .ref 130), (1, .int i1), (2, .int i2), (3, .int i3), (4, .int i4), (5, .int i5)] [.int s0] M P := by
  refine x_if_ne 128 dX12_judged_122 (by decide) (fun c1 => ?_) (fun c1 => ?_)
  · refine x_iinc (v := (i5 + 1)) (lv1 := [(5, .int (i5 + 1)), (0, .ref 130), (1, .int i1), (2, .int i2), (3, .int i3), (4, .int i4)]) dX12_judged_128 5 rfl rfl (by decide) rfl ?_
    refine x_goto 44 dX12_judged_131 (by decide) ?_
    exact EX.sub [1, 2, 3, 4, 5, 0] (k1 c1) rfl
  · refine x_iload dX12_judged_125 5 rfl ?_
    refine x_istore_n (lv1 := [(3, .int i5), (0, .ref 130), (1, .int i1), (2, .int i2), (4, .int i4), (5, .int i5)]) dX12_judged_127 (by decide) rfl ?_
    refine x_iinc (v := (i5 + 1)) (lv1 := [(5, .int (i5 + 1)), (3, .int i5), (0, .ref 130), (1, .int i1), (2, .int i2), (4, .int i4)]) dX12_judged_128 5 rfl rfl (by decide) rfl ?_
    refine x_goto 44 dX12_judged_131 (by decide) ?_
    exact EX.sub [2, 3, 4, 1, 5, 0] (k2 c1) rfl
set_option maxRecDepth 8000 in
theorem qX12_judged_147 {g : GG} {d : Nat} {M : MM} {P : Option Value → MM → Prop} {i1 : Int32} {i2 : Int32} {i3 : Int32} {i4 : Int32}
    (k1 : ¬ i1 = 0 → ¬ i1 = 1 → P (some (.int i4)) M)
    (k2 : ¬ i1 = 0 → i1 = 1 → P (some (.int i3)) M)
    (k3 : i1 = 0 → P (some (.int i2)) M) :
    E0 g YX12_judged d 147 [(1, .int i1), (2, .int i2), (3, .int i3), (4, .int i4)] [] M P := by
  refine x_iload_n dX12_judged_147 0 rfl ?_
  refine x_if_ne 155 dX12_judged_148 (by decide) (fun c1 => ?_) (fun c1 => ?_)
  · refine x_iload_n dX12_judged_155 0 rfl ?_
    refine x_iconst (v := 1) dX12_judged_156 (by decide) ?_
    refine x_ic_ne 164 dX12_judged_157 (by decide) (fun c2 => ?_) (fun c2 => ?_)
    · refine x_iload dX12_judged_164 3 rfl ?_
      exact x_iret rfl dX12_judged_166 (Nat.le_refl _) (Nat.le_refl _) (k1 c1 c2)
    · refine x_iload_n dX12_judged_160 2 rfl ?_
      refine x_goto 166 dX12_judged_161 (by decide) ?_
      exact x_iret rfl dX12_judged_166 (Nat.le_refl _) (Nat.le_refl _) (k2 c1 c2)
  · refine x_iload_n dX12_judged_151 1 rfl ?_
    refine x_goto 166 dX12_judged_152 (by decide) ?_
    exact x_iret rfl dX12_judged_166 (Nat.le_refl _) (Nat.le_refl _) (k3 c1)
set_option maxRecDepth 8000 in
theorem qX12_goesOn_0 {g : GG} {d : Nat} {M : MM} {P : Option Value → MM → Prop} {i1 : Int32} {la lb pa pb rl : Nat} (L : Lay M la lb pa pb rl)
    (k1 : K0 g YX12_goesOn YX12_copies d 13 [.ref 162, .int 0, .ref 163, .int 0] [(0, .ref 130), (1, .int i1)] [] M P) :
    E0 g YX12_goesOn d 0 [(0, .ref 130), (1, .int i1)] [] M P := by
  have f1 : ob M 130 12 := L.s rfl (by decide)
  have f2 : mr M 130 43 = some 162 := L.r 157 rfl
  have f3 : mr M 130 44 = some 163 := L.r 158 rfl
  refine x_aload_n dX12_goesOn_0 0 rfl ?_
  refine x_getR fdX12_105 rfl dX12_goesOn_1 f1.1 f1.2 f2 ?_
  refine x_iconst (v := 0) dX12_goesOn_4 (by decide) ?_
  refine x_aload_n dX12_goesOn_5 0 rfl ?_
  refine x_getR fdX12_108 rfl dX12_goesOn_6 f1.1 f1.2 f3 ?_
  refine x_iconst (v := 0) dX12_goesOn_9 (by decide) ?_
  refine EX.sub [0, 1] (K0.s (As := [.ref 162, .int 0, .ref 163, .int 0]) (st := []) csX12_359 dX12_goesOn_10 rfl rfl (Nat.le_of_ble_eq_true rfl) (k1)) rfl
set_option maxRecDepth 8000 in
theorem qX12_goesOn_13 {g : GG} {d : Nat} {M : MM} {P : Option Value → MM → Prop} {i1 : Int32} {M1 : MM} {M2 : MM} {la lb pa pb rl : Nat} (L : Lay M la lb pa pb rl)
    (qM1 : M1 = wi M 130 52 (-1))
    (qM2 : M2 = wi M1 130 53 0)
    (k1 : E0 g YX12_goesOn d 25 [(0, .ref 130), (1, .int i1), (2, .int 0)] [] M2 P) :
    E0 g YX12_goesOn d 13 [(0, .ref 130), (1, .int i1)] [] M P := by
  have f1 : ob M 130 12 := L.s rfl (by decide)
  subst qM1 qM2
  refine x_aload_n dX12_goesOn_13 0 rfl ?_
  refine x_iconst (v := (-1)) dX12_goesOn_14 (by decide) ?_
  refine x_putI fdX12_390 rfl (Or.inl rfl) dX12_goesOn_15 f1.1 f1.2 rfl rfl ?_
  refine x_aload_n dX12_goesOn_18 0 rfl ?_
  refine x_iconst (v := 0) dX12_goesOn_19 (by decide) ?_
  refine x_putI fdX12_393 rfl (Or.inl rfl) dX12_goesOn_20 f1.1 f1.2 rfl rfl ?_
  refine x_iconst (v := 0) dX12_goesOn_23 (by decide) ?_
  refine x_istore_n (lv1 := [(2, .int 0), (0, .ref 130), (1, .int i1)]) dX12_goesOn_24 (by decide) rfl ?_
  exact EX.sub [1, 2, 0] k1 rfl
set_option maxRecDepth 8000 in
theorem qX12_goesOn_25 {g : GG} {d : Nat} {M : MM} {P : Option Value → MM → Prop} {i1 : Int32} {i2 : Int32} {M1 : MM} {la lb pa pb rl : Nat} (L : Lay M la lb pa pb rl)
    (qM1 : M1 = wi M 168 (i2 : Int32).toNatClampNeg (-1))
    (h1 : ¬ (6 ≤ i2) → vp_in i2 6)
    (k1 : 6 ≤ i2 → E0 g YX12_goesOn d 46 [(0, .ref 130), (1, .int i1), (2, .int 0)] [] M P)
    (k2 : ¬ (6 ≤ i2) → E0 g YX12_goesOn d 25 [(0, .ref 130), (1, .int i1), (2, .int (i2 + 1))] [] M1 P) :
    E0 g YX12_goesOn d 25 [(0, .ref 130), (1, .int i1), (2, .int i2)] [] M P := by
  have f1 : ob M 130 12 := L.s rfl (by decide)
  have f2 : mr M 130 50 = some 168 := L.r 163 rfl
  have f3 : ar M 168 1 6 := L.s rfl (by decide)
  subst qM1
  refine x_iload_n dX12_goesOn_25 2 rfl ?_
  refine x_bipush (v := 6) dX12_goesOn_26 (by decide) ?_
  refine x_ic_ge 44 dX12_goesOn_28 (by decide) (fun c1 => ?_) (fun c1 => ?_)
  · refine x_iconst (v := 0) dX12_goesOn_44 (by decide) ?_
    refine x_istore_n (lv1 := [(2, .int 0), (0, .ref 130), (1, .int i1)]) dX12_goesOn_45 (by decide) rfl ?_
    exact EX.sub [1, 2, 0] (k1 c1) rfl
  · refine x_aload_n dX12_goesOn_31 0 rfl ?_
    refine x_getR fdX12_123 rfl dX12_goesOn_32 f1.1 f1.2 f2 ?_
    refine x_iload_n dX12_goesOn_35 2 rfl ?_
    refine x_iconst (v := (-1)) dX12_goesOn_36 (by decide) ?_
    refine x_iast dX12_goesOn_37 f3.1 f3.2 (h1 c1) ?_
    refine x_iinc (v := (i2 + 1)) (lv1 := [(2, .int (i2 + 1)), (0, .ref 130), (1, .int i1)]) dX12_goesOn_38 2 rfl rfl (by decide) rfl ?_
    refine x_goto 25 dX12_goesOn_41 (by decide) ?_
    exact EX.sub [1, 2, 0] (k2 c1) rfl
set_option maxRecDepth 8000 in
theorem qX12_goesOn_46 {g : GG} {d : Nat} {M : MM} {P : Option Value → MM → Prop} {i1 : Int32} {i2 : Int32} {M1 : MM} {la lb pa pb rl : Nat} (L : Lay M la lb pa pb rl)
    (qM1 : M1 = wi M 169 (i2 : Int32).toNatClampNeg (-1))
    (h1 : ¬ (10 ≤ i2) → vp_in i2 10)
    (k1 : 10 ≤ i2 → E0 g YX12_goesOn d 72 [(0, .ref 130), (1, .int i1), (2, .int (mi M 162 1))] [] M P)
    (k2 : ¬ (10 ≤ i2) → E0 g YX12_goesOn d 46 [(0, .ref 130), (1, .int i1), (2, .int (i2 + 1))] [] M1 P) :
    E0 g YX12_goesOn d 46 [(0, .ref 130), (1, .int i1), (2, .int i2)] [] M P := by
  have f1 : ob M 130 12 := L.s rfl (by decide)
  have f2 : mr M 130 43 = some 162 := L.r 157 rfl
  have f3 : ar M 162 1 19 := L.s rfl (by decide)
  have f4 : mr M 130 51 = some 169 := L.r 164 rfl
  have f5 : ar M 169 1 10 := L.s rfl (by decide)
  subst qM1
  refine x_iload_n dX12_goesOn_46 2 rfl ?_
  refine x_bipush (v := 10) dX12_goesOn_47 (by decide) ?_
  refine x_ic_ge 65 dX12_goesOn_49 (by decide) (fun c1 => ?_) (fun c1 => ?_)
  · refine x_aload_n dX12_goesOn_65 0 rfl ?_
    refine x_getR fdX12_105 rfl dX12_goesOn_66 f1.1 f1.2 f2 ?_
    refine x_iconst (v := 1) dX12_goesOn_69 (by decide) ?_
    refine x_iald dX12_goesOn_70 f3.1 f3.2 (by unfold vp_in; decide) ?_
    refine x_istore_n (lv1 := [(2, .int (mi M 162 1)), (0, .ref 130), (1, .int i1)]) dX12_goesOn_71 (by decide) rfl ?_
    exact EX.sub [1, 2, 0] (k1 c1) rfl
  · refine x_aload_n dX12_goesOn_52 0 rfl ?_
    refine x_getR fdX12_126 rfl dX12_goesOn_53 f1.1 f1.2 f4 ?_
    refine x_iload_n dX12_goesOn_56 2 rfl ?_
    refine x_iconst (v := (-1)) dX12_goesOn_57 (by decide) ?_
    refine x_iast dX12_goesOn_58 f5.1 f5.2 (h1 c1) ?_
    refine x_iinc (v := (i2 + 1)) (lv1 := [(2, .int (i2 + 1)), (0, .ref 130), (1, .int i1)]) dX12_goesOn_59 2 rfl rfl (by decide) rfl ?_
    refine x_goto 46 dX12_goesOn_62 (by decide) ?_
    exact EX.sub [1, 2, 0] (k2 c1) rfl
set_option maxRecDepth 8000 in
theorem qX12_goesOn_72 {g : GG} {d : Nat} {M : MM} {P : Option Value → MM → Prop} {i1 : Int32} {i2 : Int32} {la lb pa pb rl : Nat} (L : Lay M la lb pa pb rl)
    (h1 : ¬ ((mi M 132 1) ≤ i2) → vp_in (3 + i2) 19)
    (k1 : (mi M 132 1) ≤ i2 → K0 g YX12_goesOn YX12_copies d 231 [.ref 163, .int 0, .ref 162, .int 0] [] [] M P)
    (k2 : ¬ ((mi M 132 1) ≤ i2) → (mi M 162 ((3 + i2) : Int32).toNatClampNeg) = i1 → E0 g YX12_goesOn d 109 [(0, .ref 130), (1, .int i1), (2, .int i2), (3, .int (mi M 162 ((3 + i2) : Int32).toNatClampNeg)), (4, .int (mi M 162 0))] [] M P)
    (k3 : ¬ ((mi M 132 1) ≤ i2) → ¬ ((mi M 162 ((3 + i2) : Int32).toNatClampNeg) = i1) → K0 g YX12_goesOn YX12_cuts d 109 [.ref 130, .int (mi M 162 ((3 + i2) : Int32).toNatClampNeg)] [(0, .ref 130), (1, .int i1), (2, .int i2), (3, .int (mi M 162 ((3 + i2) : Int32).toNatClampNeg)), (4, .int (mi M 162 0))] [] M P) :
    E0 g YX12_goesOn d 72 [(0, .ref 130), (1, .int i1), (2, .int i2)] [] M P := by
  have f1 : ob M 130 12 := L.s rfl (by decide)
  have f2 : mr M 130 10 = some 132 := L.r 127 rfl
  have f3 : ar M 132 1 4 := L.s rfl (by decide)
  have f4 : mr M 130 44 = some 163 := L.r 158 rfl
  have f5 : mr M 130 43 = some 162 := L.r 157 rfl
  have f6 : ar M 162 1 19 := L.s rfl (by decide)
  refine x_iload_n dX12_goesOn_72 2 rfl ?_
  refine x_aload_n dX12_goesOn_73 0 rfl ?_
  refine x_getR fdX12_13 rfl dX12_goesOn_74 f1.1 f1.2 f2 ?_
  refine x_iconst (v := 1) dX12_goesOn_77 (by decide) ?_
  refine x_iald dX12_goesOn_78 f3.1 f3.2 (by unfold vp_in; decide) ?_
  refine x_ic_ge 218 dX12_goesOn_79 (by decide) (fun c1 => ?_) (fun c1 => ?_)
  · refine x_aload_n dX12_goesOn_218 0 rfl ?_
    refine x_getR fdX12_108 rfl dX12_goesOn_219 f1.1 f1.2 f4 ?_
    refine x_iconst (v := 0) dX12_goesOn_222 (by decide) ?_
    refine x_aload_n dX12_goesOn_223 0 rfl ?_
    refine x_getR fdX12_105 rfl dX12_goesOn_224 f1.1 f1.2 f5 ?_
    refine x_iconst (v := 0) dX12_goesOn_227 (by decide) ?_
    refine EX.sub [] (K0.s (As := [.ref 163, .int 0, .ref 162, .int 0]) (st := []) csX12_359 dX12_goesOn_228 rfl rfl (Nat.le_of_ble_eq_true rfl) (k1 c1)) rfl
  · refine x_aload_n dX12_goesOn_82 0 rfl ?_
    refine x_getR fdX12_105 rfl dX12_goesOn_83 f1.1 f1.2 f5 ?_
    refine x_iconst (v := 3) dX12_goesOn_86 (by decide) ?_
    refine x_iload_n dX12_goesOn_87 2 rfl ?_
    refine x_iadd dX12_goesOn_88 ?_
    refine x_iald dX12_goesOn_89 f6.1 f6.2 (h1 c1) ?_
    refine x_istore_n (lv1 := [(3, .int (mi M 162 ((3 + i2) : Int32).toNatClampNeg)), (0, .ref 130), (1, .int i1), (2, .int i2)]) dX12_goesOn_90 (by decide) rfl ?_
    refine x_aload_n dX12_goesOn_91 1 rfl ?_
    refine x_getR fdX12_105 rfl dX12_goesOn_92 f1.1 f1.2 f5 ?_
    refine x_iconst (v := 0) dX12_goesOn_95 (by decide) ?_
    refine x_iald dX12_goesOn_96 f6.1 f6.2 (by unfold vp_in; decide) ?_
    refine x_istore (lv1 := [(4, .int (mi M 162 0)), (3, .int (mi M 162 ((3 + i2) : Int32).toNatClampNeg)), (0, .ref 130), (1, .int i1), (2, .int i2)]) dX12_goesOn_97 (by decide) rfl ?_
    refine x_iload_n dX12_goesOn_99 1 rfl ?_
    refine x_iload_n dX12_goesOn_100 3 rfl ?_
    refine x_ic_eq 109 dX12_goesOn_101 (by decide) (fun c2 => ?_) (fun c2 => ?_)
    · exact EX.sub [2, 3, 4, 1, 0] (k2 c1 c2) rfl
    · refine x_aload_n dX12_goesOn_104 2 rfl ?_
      refine x_iload_n dX12_goesOn_105 1 rfl ?_
      refine EX.sub [2, 3, 4, 1, 0] (K0.v (As := [.int (mi M 162 ((3 + i2) : Int32).toNatClampNeg)]) (st := []) cvX12_344 dX12_goesOn_106 rfl rfl f1 rfl (Nat.le_of_ble_eq_true rfl) (k3 c1 c2)) rfl
set_option maxRecDepth 8000 in
theorem qX12_goesOn_109 {g : GG} {d : Nat} {M : MM} {P : Option Value → MM → Prop} {i1 : Int32} {i2 : Int32} {i3 : Int32} {i4 : Int32}
    (k1 : E0 g YX12_goesOn d 112 [(0, .ref 130), (1, .int i1), (2, .int i2), (3, .int i3), (4, .int i4), (5, .int 0)] [] M P) :
    E0 g YX12_goesOn d 109 [(0, .ref 130), (1, .int i1), (2, .int i2), (3, .int i3), (4, .int i4)] [] M P := by
  refine x_iconst (v := 0) dX12_goesOn_109 (by decide) ?_
  refine x_istore (lv1 := [(5, .int 0), (0, .ref 130), (1, .int i1), (2, .int i2), (3, .int i3), (4, .int i4)]) dX12_goesOn_110 (by decide) rfl ?_
  exact EX.sub [1, 2, 3, 4, 5, 0] k1 rfl
set_option maxRecDepth 8000 in
theorem qX12_goesOn_112 {g : GG} {d : Nat} {M : MM} {P : Option Value → MM → Prop} {i1 : Int32} {i2 : Int32} {i3 : Int32} {i4 : Int32} {i5 : Int32} {M1 : MM} {M2 : MM} {la lb pa pb rl : Nat} (L : Lay M la lb pa pb rl)
    (qM1 : M1 = wi M 168 (i3 : Int32).toNatClampNeg (mi M 162 0))
    (qM2 : M2 = wi M 169 (i5 : Int32).toNatClampNeg i3)
    (h1 : (mi M 132 0) ≤ i5 → vp_in i3 6)
    (h2 : ¬ ((mi M 132 0) ≤ i5) → ¬ (((i4 &&& ((mi M 162 0) ^^^ (-1))) &&& ((1 : Int32) <<< (i5 &&& 31))) = 0) → vp_in i5 10)
    (k1 : (mi M 132 0) ≤ i5 → K0 g YX12_goesOn YX12_minutesOf d 183 [.ref 130, .int (mi M1 162 0)] [(0, .ref 130), (1, .int i1), (2, .int i2), (3, .int i3)] [.int (mi M1 130 53), .ref 130] M1 P)
    (k2 : ¬ ((mi M 132 0) ≤ i5) → ((i4 &&& ((mi M 162 0) ^^^ (-1))) &&& ((1 : Int32) <<< (i5 &&& 31))) = 0 → E0 g YX12_goesOn d 112 [(0, .ref 130), (1, .int i1), (2, .int i2), (3, .int i3), (4, .int i4), (5, .int (i5 + 1))] [] M P)
    (k3 : ¬ ((mi M 132 0) ≤ i5) → ¬ (((i4 &&& ((mi M 162 0) ^^^ (-1))) &&& ((1 : Int32) <<< (i5 &&& 31))) = 0) → E0 g YX12_goesOn d 112 [(0, .ref 130), (1, .int i1), (2, .int i2), (3, .int i3), (4, .int i4), (5, .int (i5 + 1))] [] M2 P) :
    E0 g YX12_goesOn d 112 [(0, .ref 130), (1, .int i1), (2, .int i2), (3, .int i3), (4, .int i4), (5, .int i5)] [] M P := by
  have f1 : ob M 130 12 := L.s rfl (by decide)
  have f2 : mr M 130 10 = some 132 := L.r 127 rfl
  have f3 : ar M 132 1 4 := L.s rfl (by decide)
  have f4 : mr M 130 50 = some 168 := L.r 163 rfl
  have f5 : mr M 130 43 = some 162 := L.r 157 rfl
  have f6 : ar M 162 1 19 := L.s rfl (by decide)
  have f7 : ar M 168 1 6 := L.s rfl (by decide)
  have f8 : mr M 130 51 = some 169 := L.r 164 rfl
  have f9 : ar M 169 1 10 := L.s rfl (by decide)
  subst qM1 qM2
  let M1 : MM := wi M 168 (i3 : Int32).toNatClampNeg (mi M 162 0)
  let M2 : MM := wi M 169 (i5 : Int32).toNatClampNeg i3
  refine x_iload dX12_goesOn_112 5 rfl ?_
  refine x_aload_n dX12_goesOn_114 0 rfl ?_
  refine x_getR fdX12_13 rfl dX12_goesOn_115 f1.1 f1.2 f2 ?_
  refine x_iconst (v := 0) dX12_goesOn_118 (by decide) ?_
  refine x_iald dX12_goesOn_119 f3.1 f3.2 (by unfold vp_in; decide) ?_
  refine x_ic_ge 156 dX12_goesOn_120 (by decide) (fun c1 => ?_) (fun c1 => ?_)
  · refine x_aload_n dX12_goesOn_156 0 rfl ?_
    refine x_getR fdX12_123 rfl dX12_goesOn_157 f1.1 f1.2 f4 ?_
    refine x_iload_n dX12_goesOn_160 3 rfl ?_
    refine x_aload_n dX12_goesOn_161 0 rfl ?_
    refine x_getR fdX12_105 rfl dX12_goesOn_162 f1.1 f1.2 f5 ?_
    refine x_iconst (v := 0) dX12_goesOn_165 (by decide) ?_
    refine x_iald dX12_goesOn_166 f6.1 f6.2 (by unfold vp_in; decide) ?_
    refine x_iast dX12_goesOn_167 f7.1 f7.2 (h1 c1) ?_
    refine x_aload_n dX12_goesOn_168 0 rfl ?_
    refine x_dup dX12_goesOn_169 rfl ?_
    refine x_getI fdX12_393 rfl dX12_goesOn_170 f1.1 f1.2 ?_
    refine x_aload_n dX12_goesOn_173 0 rfl ?_
    refine x_aload_n dX12_goesOn_174 0 rfl ?_
    refine x_getR fdX12_105 rfl dX12_goesOn_175 f1.1 f1.2 f5 ?_
    refine x_iconst (v := 0) dX12_goesOn_178 (by decide) ?_
    refine x_iald dX12_goesOn_179 f6.1 f6.2 (by unfold vp_in; decide) ?_
    refine EX.sub [0, 1, 2, 3] (K0.v (As := [.int (mi M1 162 0)]) (st := [.int (mi M1 130 53), .ref 130]) cvX12_369 dX12_goesOn_180 rfl rfl f1 rfl (Nat.le_of_ble_eq_true rfl) (k1 c1)) rfl
  · refine x_iload dX12_goesOn_123 4 rfl ?_
    refine x_aload_n dX12_goesOn_125 0 rfl ?_
    refine x_getR fdX12_105 rfl dX12_goesOn_126 f1.1 f1.2 f5 ?_
    refine x_iconst (v := 0) dX12_goesOn_129 (by decide) ?_
    refine x_iald dX12_goesOn_130 f6.1 f6.2 (by unfold vp_in; decide) ?_
    refine x_iconst (v := (-1)) dX12_goesOn_131 (by decide) ?_
    refine x_ixor dX12_goesOn_132 ?_
    refine x_iand dX12_goesOn_133 ?_
    refine x_iconst (v := 1) dX12_goesOn_134 (by decide) ?_
    refine x_iload dX12_goesOn_135 5 rfl ?_
    refine x_ishl dX12_goesOn_137 ?_
    refine x_iand dX12_goesOn_138 ?_
    refine x_if_eq 150 dX12_goesOn_139 (by decide) (fun c2 => ?_) (fun c2 => ?_)
    · refine x_iinc (v := (i5 + 1)) (lv1 := [(5, .int (i5 + 1)), (0, .ref 130), (1, .int i1), (2, .int i2), (3, .int i3), (4, .int i4)]) dX12_goesOn_150 5 rfl rfl (by decide) rfl ?_
      refine x_goto 112 dX12_goesOn_153 (by decide) ?_
      exact EX.sub [1, 2, 3, 4, 5, 0] (k2 c1 c2) rfl
    · refine x_aload_n dX12_goesOn_142 0 rfl ?_
      refine x_getR fdX12_126 rfl dX12_goesOn_143 f1.1 f1.2 f8 ?_
      refine x_iload dX12_goesOn_146 5 rfl ?_
      refine x_iload_n dX12_goesOn_148 3 rfl ?_
      refine x_iast dX12_goesOn_149 f9.1 f9.2 (h2 c1 c2) ?_
      refine x_iinc (v := (i5 + 1)) (lv1 := [(5, .int (i5 + 1)), (0, .ref 130), (1, .int i1), (2, .int i2), (3, .int i3), (4, .int i4)]) dX12_goesOn_150 5 rfl rfl (by decide) rfl ?_
      refine x_goto 112 dX12_goesOn_153 (by decide) ?_
      exact EX.sub [1, 2, 3, 4, 5, 0] (k3 c1 c2) rfl
set_option maxRecDepth 8000 in
theorem qX12_goesOn_183 {g : GG} {d : Nat} {M : MM} {P : Option Value → MM → Prop} {i1 : Int32} {i2 : Int32} {i3 : Int32} {s0 : Nat} {s1 : Int32} {s2 : Int32} {M1 : MM} {la lb pa pb rl : Nat} (L : Lay M la lb pa pb rl)
    (qM1 : M1 = wi M s0 53 (s1 + s2))
    (h1 : ob M s0 12)
    (k1 : 0 ≤ (mi M1 130 52) → E0 g YX12_goesOn d 72 [(0, .ref 130), (1, .int i1), (2, .int (i2 + 1))] [] M1 P)
    (k2 : ¬ (0 ≤ (mi M1 130 52)) → K0 g YX12_goesOn YX12_makesSense d 204 [.ref 130, .int (mi M1 162 0)] [(0, .ref 130), (1, .int i1), (2, .int i2), (3, .int i3)] [] M1 P) :
    E0 g YX12_goesOn d 183 [(0, .ref 130), (1, .int i1), (2, .int i2), (3, .int i3)] [.int s2, .int s1, .ref s0] M P := by
  have f1 : ob M 130 12 := L.s rfl (by decide)
  have f2 : mr M 130 43 = some 162 := L.r 157 rfl
  have f3 : ar M 162 1 19 := L.s rfl (by decide)
  subst qM1
  let M1 : MM := wi M s0 53 (s1 + s2)
  refine x_iadd dX12_goesOn_183 ?_
  refine x_putI fdX12_393 rfl (Or.inl rfl) dX12_goesOn_184 h1.1 h1.2 rfl rfl ?_
  refine x_aload_n dX12_goesOn_187 0 rfl ?_
  refine x_getI fdX12_390 rfl dX12_goesOn_188 f1.1 f1.2 ?_
  refine x_if_ge 212 dX12_goesOn_191 (by decide) (fun c1 => ?_) (fun c1 => ?_)
  · refine x_iinc (v := (i2 + 1)) (lv1 := [(2, .int (i2 + 1)), (0, .ref 130), (1, .int i1), (3, .int i3)]) dX12_goesOn_212 2 rfl rfl (by decide) rfl ?_
    refine x_goto 72 dX12_goesOn_215 (by decide) ?_
    exact EX.sub [1, 2, 0] (k1 c1) rfl
  · refine x_aload_n dX12_goesOn_194 0 rfl ?_
    refine x_aload_n dX12_goesOn_195 0 rfl ?_
    refine x_getR fdX12_105 rfl dX12_goesOn_196 f1.1 f1.2 f2 ?_
    refine x_iconst (v := 0) dX12_goesOn_199 (by decide) ?_
    refine x_iald dX12_goesOn_200 f3.1 f3.2 (by unfold vp_in; decide) ?_
    refine EX.sub [0, 1, 2, 3] (K0.v (As := [.int (mi M1 162 0)]) (st := []) cvX12_387 dX12_goesOn_201 rfl rfl f1 rfl (Nat.le_of_ble_eq_true rfl) (k2 c1)) rfl
set_option maxRecDepth 8000 in
theorem qX12_goesOn_204 {g : GG} {d : Nat} {M : MM} {P : Option Value → MM → Prop} {i1 : Int32} {i2 : Int32} {i3 : Int32} {s0 : Int32} {M1 : MM} {la lb pa pb rl : Nat} (L : Lay M la lb pa pb rl)
    (qM1 : M1 = wi M 130 52 i3)
    (k1 : ¬ s0 = 0 → E0 g YX12_goesOn d 72 [(0, .ref 130), (1, .int i1), (2, .int (i2 + 1))] [] M P)
    (k2 : s0 = 0 → E0 g YX12_goesOn d 72 [(0, .ref 130), (1, .int i1), (2, .int (i2 + 1))] [] M1 P) :
    E0 g YX12_goesOn d 204 [(0, .ref 130), (1, .int i1), (2, .int i2), (3, .int i3)] [.int s0] M P := by
  have f1 : ob M 130 12 := L.s rfl (by decide)
  subst qM1
  refine x_if_ne 212 dX12_goesOn_204 (by decide) (fun c1 => ?_) (fun c1 => ?_)
  · refine x_iinc (v := (i2 + 1)) (lv1 := [(2, .int (i2 + 1)), (0, .ref 130), (1, .int i1), (3, .int i3)]) dX12_goesOn_212 2 rfl rfl (by decide) rfl ?_
    refine x_goto 72 dX12_goesOn_215 (by decide) ?_
    exact EX.sub [1, 2, 0] (k1 c1) rfl
  · refine x_aload_n dX12_goesOn_207 0 rfl ?_
    refine x_iload_n dX12_goesOn_208 3 rfl ?_
    refine x_putI fdX12_390 rfl (Or.inl rfl) dX12_goesOn_209 f1.1 f1.2 rfl rfl ?_
    refine x_iinc (v := (i2 + 1)) (lv1 := [(2, .int (i2 + 1)), (0, .ref 130), (1, .int i1), (3, .int i3)]) dX12_goesOn_212 2 rfl rfl (by decide) rfl ?_
    refine x_goto 72 dX12_goesOn_215 (by decide) ?_
    exact EX.sub [1, 2, 0] (k2 c1) rfl
set_option maxRecDepth 8000 in
theorem qX12_goesOn_231 {g : GG} {d : Nat} {M : MM} {P : Option Value → MM → Prop} 
    (k1 : P none M) :
    E0 g YX12_goesOn d 231 [] [] M P := by
  exact x_vret rfl dX12_goesOn_231 (Nat.le_refl _) (Nat.le_refl _) (k1)
set_option maxRecDepth 8000 in
theorem qX12_shown_0 {g : GG} {d : Nat} {M : MM} {P : Option Value → MM → Prop} {i1 : Int32} {i2 : Int32} {M1 : MM} {la lb pa pb rl : Nat} (L : Lay M la lb pa pb rl)
    (qM1 : M1 = wi M 130 0 0)
    (k1 : K0 g YX12_shown YX12_isHall d 10 [.ref 130, .int i1] [(0, .ref 130), (1, .int i1), (2, .int i2)] [] M1 P) :
    E0 g YX12_shown d 0 [(0, .ref 130), (1, .int i1), (2, .int i2)] [] M P := by
  have f1 : ob M 130 12 := L.s rfl (by decide)
  subst qM1
  refine x_aload_n dX12_shown_0 0 rfl ?_
  refine x_iconst (v := 0) dX12_shown_1 (by decide) ?_
  refine x_putI fdX12_138 rfl (Or.inl rfl) dX12_shown_2 f1.1 f1.2 rfl rfl ?_
  refine x_aload_n dX12_shown_5 0 rfl ?_
  refine x_iload_n dX12_shown_6 1 rfl ?_
  refine EX.sub [0, 1, 2] (K0.v (As := [.int i1]) (st := []) cvX12_350 dX12_shown_7 rfl rfl f1 rfl (Nat.le_of_ble_eq_true rfl) (k1)) rfl
set_option maxRecDepth 8000 in
theorem qX12_shown_10 {g : GG} {d : Nat} {M : MM} {P : Option Value → MM → Prop} {i1 : Int32} {i2 : Int32} {s0 : Int32} {la lb pa pb rl : Nat} (L : Lay M la lb pa pb rl)
    (k1 : s0 = 0 → P (some (.int (-1))) M)
    (k2 : ¬ (s0 = 0) → 0 ≤ i2 → K0 g YX12_shown YX12_goesOn d 24 [.ref 130, .int (-1)] [(0, .ref 130), (1, .int i1), (2, .int i2)] [] M P)
    (k3 : ¬ (s0 = 0) → ¬ (0 ≤ i2) → P (some (.int (-1))) M) :
    E0 g YX12_shown d 10 [(0, .ref 130), (1, .int i1), (2, .int i2)] [.int s0] M P := by
  have f1 : ob M 130 12 := L.s rfl (by decide)
  refine x_if_eq 17 dX12_shown_10 (by decide) (fun c1 => ?_) (fun c1 => ?_)
  · refine x_iconst (v := (-1)) dX12_shown_17 (by decide) ?_
    exact x_iret rfl dX12_shown_18 (Nat.le_refl _) (Nat.le_refl _) (k1 c1)
  · refine x_iload_n dX12_shown_13 2 rfl ?_
    refine x_if_ge 19 dX12_shown_14 (by decide) (fun c2 => ?_) (fun c2 => ?_)
    · refine x_aload_n dX12_shown_19 0 rfl ?_
      refine x_iconst (v := (-1)) dX12_shown_20 (by decide) ?_
      refine EX.sub [0, 1, 2] (K0.v (As := [.int (-1)]) (st := []) cvX12_396 dX12_shown_21 rfl rfl f1 rfl (Nat.le_of_ble_eq_true rfl) (k2 c1 c2)) rfl
    · refine x_iconst (v := (-1)) dX12_shown_17 (by decide) ?_
      exact x_iret rfl dX12_shown_18 (Nat.le_refl _) (Nat.le_refl _) (k3 c1 c2)
set_option maxRecDepth 8000 in
theorem qX12_shown_24 {g : GG} {d : Nat} {M : MM} {P : Option Value → MM → Prop} {i1 : Int32} {i2 : Int32} {la lb pa pb rl : Nat} (L : Lay M la lb pa pb rl)
    (h1 : vp_in i1 6)
    (k1 : 0 ≤ (mi M 168 (i1 : Int32).toNatClampNeg) → E0 g YX12_shown d 40 [(0, .ref 130), (1, .int i1), (2, .int i2), (3, .int 0), (4, .int 0)] [] M P)
    (k2 : ¬ (0 ≤ (mi M 168 (i1 : Int32).toNatClampNeg)) → P (some (.int (-1))) M) :
    E0 g YX12_shown d 24 [(0, .ref 130), (1, .int i1), (2, .int i2)] [] M P := by
  have f1 : ob M 130 12 := L.s rfl (by decide)
  have f2 : mr M 130 50 = some 168 := L.r 163 rfl
  have f3 : ar M 168 1 6 := L.s rfl (by decide)
  refine x_aload_n dX12_shown_24 0 rfl ?_
  refine x_getR fdX12_123 rfl dX12_shown_25 f1.1 f1.2 f2 ?_
  refine x_iload_n dX12_shown_28 1 rfl ?_
  refine x_iald dX12_shown_29 f3.1 f3.2 (h1) ?_
  refine x_if_ge 35 dX12_shown_30 (by decide) (fun c1 => ?_) (fun c1 => ?_)
  · refine x_iconst (v := 0) dX12_shown_35 (by decide) ?_
    refine x_istore_n (lv1 := [(3, .int 0), (0, .ref 130), (1, .int i1), (2, .int i2)]) dX12_shown_36 (by decide) rfl ?_
    refine x_iconst (v := 0) dX12_shown_37 (by decide) ?_
    refine x_istore (lv1 := [(4, .int 0), (3, .int 0), (0, .ref 130), (1, .int i1), (2, .int i2)]) dX12_shown_38 (by decide) rfl ?_
    exact EX.sub [2, 3, 4, 1, 0] (k1 c1) rfl
  · refine x_iconst (v := (-1)) dX12_shown_33 (by decide) ?_
    exact x_iret rfl dX12_shown_34 (Nat.le_refl _) (Nat.le_refl _) (k2 c1)
set_option maxRecDepth 8000 in
theorem qX12_shown_40 {g : GG} {d : Nat} {M : MM} {P : Option Value → MM → Prop} {i1 : Int32} {i2 : Int32} {i3 : Int32} {i4 : Int32} {la lb pa pb rl : Nat} (L : Lay M la lb pa pb rl)
    (h1 : ¬ ((mi M 132 0) ≤ i4) → vp_in i1 6)
    (k1 : (mi M 132 0) ≤ i4 → P (some (.int (-1))) M)
    (k2 : ¬ ((mi M 132 0) ≤ i4) → ¬ (((mi M 168 (i1 : Int32).toNatClampNeg) >>> (i4 &&& 31)) &&& 1) = 0 → ¬ i3 = i2 → E0 g YX12_shown d 40 [(0, .ref 130), (1, .int i1), (2, .int i2), (3, .int (i3 + 1)), (4, .int (i4 + 1))] [] M P)
    (k3 : ¬ ((mi M 132 0) ≤ i4) → ¬ (((mi M 168 (i1 : Int32).toNatClampNeg) >>> (i4 &&& 31)) &&& 1) = 0 → i3 = i2 → P (some (.int i4)) M)
    (k4 : ¬ ((mi M 132 0) ≤ i4) → (((mi M 168 (i1 : Int32).toNatClampNeg) >>> (i4 &&& 31)) &&& 1) = 0 → E0 g YX12_shown d 40 [(0, .ref 130), (1, .int i1), (2, .int i2), (3, .int i3), (4, .int (i4 + 1))] [] M P) :
    E0 g YX12_shown d 40 [(0, .ref 130), (1, .int i1), (2, .int i2), (3, .int i3), (4, .int i4)] [] M P := by
  have f1 : ob M 130 12 := L.s rfl (by decide)
  have f2 : mr M 130 10 = some 132 := L.r 127 rfl
  have f3 : ar M 132 1 4 := L.s rfl (by decide)
  have f4 : mr M 130 50 = some 168 := L.r 163 rfl
  have f5 : ar M 168 1 6 := L.s rfl (by decide)
  refine x_iload dX12_shown_40 4 rfl ?_
  refine x_aload_n dX12_shown_42 0 rfl ?_
  refine x_getR fdX12_13 rfl dX12_shown_43 f1.1 f1.2 f2 ?_
  refine x_iconst (v := 0) dX12_shown_46 (by decide) ?_
  refine x_iald dX12_shown_47 f3.1 f3.2 (by unfold vp_in; decide) ?_
  refine x_ic_ge 85 dX12_shown_48 (by decide) (fun c1 => ?_) (fun c1 => ?_)
  · refine x_iconst (v := (-1)) dX12_shown_85 (by decide) ?_
    exact x_iret rfl dX12_shown_86 (Nat.le_refl _) (Nat.le_refl _) (k1 c1)
  · refine x_aload_n dX12_shown_51 0 rfl ?_
    refine x_getR fdX12_123 rfl dX12_shown_52 f1.1 f1.2 f4 ?_
    refine x_iload_n dX12_shown_55 1 rfl ?_
    refine x_iald dX12_shown_56 f5.1 f5.2 (h1 c1) ?_
    refine x_iload dX12_shown_57 4 rfl ?_
    refine x_ishr dX12_shown_59 ?_
    refine x_iconst (v := 1) dX12_shown_60 (by decide) ?_
    refine x_iand dX12_shown_61 ?_
    refine x_if_ne 68 dX12_shown_62 (by decide) (fun c2 => ?_) (fun c2 => ?_)
    · refine x_iload_n dX12_shown_68 3 rfl ?_
      refine x_iload_n dX12_shown_69 2 rfl ?_
      refine x_ic_ne 76 dX12_shown_70 (by decide) (fun c3 => ?_) (fun c3 => ?_)
      · refine x_iinc (v := (i3 + 1)) (lv1 := [(3, .int (i3 + 1)), (0, .ref 130), (1, .int i1), (2, .int i2), (4, .int i4)]) dX12_shown_76 3 rfl rfl (by decide) rfl ?_
        refine x_iinc (v := (i4 + 1)) (lv1 := [(4, .int (i4 + 1)), (3, .int (i3 + 1)), (0, .ref 130), (1, .int i1), (2, .int i2)]) dX12_shown_79 4 rfl rfl (by decide) rfl ?_
        refine x_goto 40 dX12_shown_82 (by decide) ?_
        exact EX.sub [2, 3, 4, 1, 0] (k2 c1 c2 c3) rfl
      · refine x_iload dX12_shown_73 4 rfl ?_
        exact x_iret rfl dX12_shown_75 (Nat.le_refl _) (Nat.le_refl _) (k3 c1 c2 c3)
    · refine x_goto 79 dX12_shown_65 (by decide) ?_
      refine x_iinc (v := (i4 + 1)) (lv1 := [(4, .int (i4 + 1)), (0, .ref 130), (1, .int i1), (2, .int i2), (3, .int i3)]) dX12_shown_79 4 rfl rfl (by decide) rfl ?_
      refine x_goto 40 dX12_shown_82 (by decide) ?_
      exact EX.sub [1, 2, 3, 4, 0] (k4 c1 c2) rfl
set_option maxRecDepth 8000 in
theorem qX12_minutes_0 {g : GG} {d : Nat} {M : MM} {P : Option Value → MM → Prop} {i1 : Int32} {M1 : MM} {la lb pa pb rl : Nat} (L : Lay M la lb pa pb rl)
    (qM1 : M1 = wi M 130 0 0)
    (k1 : K0 g YX12_minutes YX12_isHall d 10 [.ref 130, .int i1] [(0, .ref 130), (1, .int i1)] [] M1 P) :
    E0 g YX12_minutes d 0 [(0, .ref 130), (1, .int i1)] [] M P := by
  have f1 : ob M 130 12 := L.s rfl (by decide)
  subst qM1
  refine x_aload_n dX12_minutes_0 0 rfl ?_
  refine x_iconst (v := 0) dX12_minutes_1 (by decide) ?_
  refine x_putI fdX12_138 rfl (Or.inl rfl) dX12_minutes_2 f1.1 f1.2 rfl rfl ?_
  refine x_aload_n dX12_minutes_5 0 rfl ?_
  refine x_iload_n dX12_minutes_6 1 rfl ?_
  refine EX.sub [0, 1] (K0.v (As := [.int i1]) (st := []) cvX12_350 dX12_minutes_7 rfl rfl f1 rfl (Nat.le_of_ble_eq_true rfl) (k1)) rfl
set_option maxRecDepth 8000 in
theorem qX12_minutes_10 {g : GG} {d : Nat} {M : MM} {P : Option Value → MM → Prop} {i1 : Int32} {s0 : Int32} {la lb pa pb rl : Nat} (L : Lay M la lb pa pb rl)
    (k1 : ¬ s0 = 0 → K0 g YX12_minutes YX12_goesOn d 20 [.ref 130, .int (-1)] [(0, .ref 130), (1, .int i1)] [] M P)
    (k2 : s0 = 0 → P (some (.int (-1))) M) :
    E0 g YX12_minutes d 10 [(0, .ref 130), (1, .int i1)] [.int s0] M P := by
  have f1 : ob M 130 12 := L.s rfl (by decide)
  refine x_if_ne 15 dX12_minutes_10 (by decide) (fun c1 => ?_) (fun c1 => ?_)
  · refine x_aload_n dX12_minutes_15 0 rfl ?_
    refine x_iconst (v := (-1)) dX12_minutes_16 (by decide) ?_
    refine EX.sub [0, 1] (K0.v (As := [.int (-1)]) (st := []) cvX12_396 dX12_minutes_17 rfl rfl f1 rfl (Nat.le_of_ble_eq_true rfl) (k1 c1)) rfl
  · refine x_iconst (v := (-1)) dX12_minutes_13 (by decide) ?_
    exact x_iret rfl dX12_minutes_14 (Nat.le_refl _) (Nat.le_refl _) (k2 c1)
set_option maxRecDepth 8000 in
theorem qX12_minutes_20 {g : GG} {d : Nat} {M : MM} {P : Option Value → MM → Prop} {i1 : Int32} {la lb pa pb rl : Nat} (L : Lay M la lb pa pb rl)
    (h1 : vp_in i1 6)
    (h2 : 0 ≤ (mi M 168 (i1 : Int32).toNatClampNeg) → vp_in i1 6)
    (k1 : 0 ≤ (mi M 168 (i1 : Int32).toNatClampNeg) → K0 g YX12_minutes YX12_minutesOf d 43 [.ref 130, .int (mi M 168 (i1 : Int32).toNatClampNeg)] [] [] M P)
    (k2 : ¬ (0 ≤ (mi M 168 (i1 : Int32).toNatClampNeg)) → E0 g YX12_minutes d 43 [] [.int (-1)] M P) :
    E0 g YX12_minutes d 20 [(0, .ref 130), (1, .int i1)] [] M P := by
  have f1 : ob M 130 12 := L.s rfl (by decide)
  have f2 : mr M 130 50 = some 168 := L.r 163 rfl
  have f3 : ar M 168 1 6 := L.s rfl (by decide)
  refine x_aload_n dX12_minutes_20 0 rfl ?_
  refine x_getR fdX12_123 rfl dX12_minutes_21 f1.1 f1.2 f2 ?_
  refine x_iload_n dX12_minutes_24 1 rfl ?_
  refine x_iald dX12_minutes_25 f3.1 f3.2 (h1) ?_
  refine x_if_ge 33 dX12_minutes_26 (by decide) (fun c1 => ?_) (fun c1 => ?_)
  · refine x_aload_n dX12_minutes_33 0 rfl ?_
    refine x_aload_n dX12_minutes_34 0 rfl ?_
    refine x_getR fdX12_123 rfl dX12_minutes_35 f1.1 f1.2 f2 ?_
    refine x_iload_n dX12_minutes_38 1 rfl ?_
    refine x_iald dX12_minutes_39 f3.1 f3.2 (h2 c1) ?_
    refine EX.sub [] (K0.v (As := [.int (mi M 168 (i1 : Int32).toNatClampNeg)]) (st := []) cvX12_369 dX12_minutes_40 rfl rfl f1 rfl (Nat.le_of_ble_eq_true rfl) (k1 c1)) rfl
  · refine x_iconst (v := (-1)) dX12_minutes_29 (by decide) ?_
    refine x_goto 43 dX12_minutes_30 (by decide) ?_
    exact EX.sub [] (k2 c1) rfl
set_option maxRecDepth 8000 in
theorem qX12_minutes_43 {g : GG} {d : Nat} {M : MM} {P : Option Value → MM → Prop} {s0 : Int32}
    (k1 : P (some (.int s0)) M) :
    E0 g YX12_minutes d 43 [] [.int s0] M P := by
  exact x_iret rfl dX12_minutes_43 (Nat.le_refl _) (Nat.le_refl _) (k1)
set_option maxRecDepth 8000 in
theorem qX12_silly_0 {g : GG} {d : Nat} {M : MM} {P : Option Value → MM → Prop}  {M1 : MM} {la lb pa pb rl : Nat} (L : Lay M la lb pa pb rl)
    (qM1 : M1 = wi M 130 0 0)
    (k1 : K0 g YX12_silly YX12_goesOn d 10 [.ref 130, .int (-1)] [(0, .ref 130)] [] M1 P) :
    E0 g YX12_silly d 0 [(0, .ref 130)] [] M P := by
  have f1 : ob M 130 12 := L.s rfl (by decide)
  subst qM1
  refine x_aload_n dX12_silly_0 0 rfl ?_
  refine x_iconst (v := 0) dX12_silly_1 (by decide) ?_
  refine x_putI fdX12_138 rfl (Or.inl rfl) dX12_silly_2 f1.1 f1.2 rfl rfl ?_
  refine x_aload_n dX12_silly_5 0 rfl ?_
  refine x_iconst (v := (-1)) dX12_silly_6 (by decide) ?_
  refine EX.sub [0] (K0.v (As := [.int (-1)]) (st := []) cvX12_396 dX12_silly_7 rfl rfl f1 rfl (Nat.le_of_ble_eq_true rfl) (k1)) rfl
set_option maxRecDepth 8000 in
theorem qX12_silly_10 {g : GG} {d : Nat} {M : MM} {P : Option Value → MM → Prop}  {la lb pa pb rl : Nat} (L : Lay M la lb pa pb rl)
    (k1 : P (some (.int (mi M 130 52))) M) :
    E0 g YX12_silly d 10 [(0, .ref 130)] [] M P := by
  have f1 : ob M 130 12 := L.s rfl (by decide)
  refine x_aload_n dX12_silly_10 0 rfl ?_
  refine x_getI fdX12_390 rfl dX12_silly_11 f1.1 f1.2 ?_
  exact x_iret rfl dX12_silly_14 (Nat.le_refl _) (Nat.le_refl _) (k1)
set_option maxRecDepth 8000 in
theorem qX12_gone_0 {g : GG} {d : Nat} {M : MM} {P : Option Value → MM → Prop} {i1 : Int32} {M1 : MM} {la lb pa pb rl : Nat} (L : Lay M la lb pa pb rl)
    (qM1 : M1 = wi M 130 0 0)
    (k1 : K0 g YX12_gone YX12_isShot d 10 [.ref 130, .int i1] [(0, .ref 130), (1, .int i1)] [] M1 P) :
    E0 g YX12_gone d 0 [(0, .ref 130), (1, .int i1)] [] M P := by
  have f1 : ob M 130 12 := L.s rfl (by decide)
  subst qM1
  refine x_aload_n dX12_gone_0 0 rfl ?_
  refine x_iconst (v := 0) dX12_gone_1 (by decide) ?_
  refine x_putI fdX12_138 rfl (Or.inl rfl) dX12_gone_2 f1.1 f1.2 rfl rfl ?_
  refine x_aload_n dX12_gone_5 0 rfl ?_
  refine x_iload_n dX12_gone_6 1 rfl ?_
  refine EX.sub [0, 1] (K0.v (As := [.int i1]) (st := []) cvX12_347 dX12_gone_7 rfl rfl f1 rfl (Nat.le_of_ble_eq_true rfl) (k1)) rfl
set_option maxRecDepth 8000 in
theorem qX12_gone_10 {g : GG} {d : Nat} {M : MM} {P : Option Value → MM → Prop} {i1 : Int32} {s0 : Int32} {la lb pa pb rl : Nat} (L : Lay M la lb pa pb rl)
    (k1 : ¬ s0 = 0 → K0 g YX12_gone YX12_goesOn d 20 [.ref 130, .int (-1)] [(0, .ref 130), (1, .int i1)] [] M P)
    (k2 : s0 = 0 → P (some (.int (-1))) M) :
    E0 g YX12_gone d 10 [(0, .ref 130), (1, .int i1)] [.int s0] M P := by
  have f1 : ob M 130 12 := L.s rfl (by decide)
  refine x_if_ne 15 dX12_gone_10 (by decide) (fun c1 => ?_) (fun c1 => ?_)
  · refine x_aload_n dX12_gone_15 0 rfl ?_
    refine x_iconst (v := (-1)) dX12_gone_16 (by decide) ?_
    refine EX.sub [0, 1] (K0.v (As := [.int (-1)]) (st := []) cvX12_396 dX12_gone_17 rfl rfl f1 rfl (Nat.le_of_ble_eq_true rfl) (k1 c1)) rfl
  · refine x_iconst (v := (-1)) dX12_gone_13 (by decide) ?_
    exact x_iret rfl dX12_gone_14 (Nat.le_refl _) (Nat.le_refl _) (k2 c1)
set_option maxRecDepth 8000 in
theorem qX12_gone_20 {g : GG} {d : Nat} {M : MM} {P : Option Value → MM → Prop} {i1 : Int32} {la lb pa pb rl : Nat} (L : Lay M la lb pa pb rl)
    (h1 : vp_in i1 10)
    (k1 : P (some (.int (mi M 169 (i1 : Int32).toNatClampNeg))) M) :
    E0 g YX12_gone d 20 [(0, .ref 130), (1, .int i1)] [] M P := by
  have f1 : ob M 130 12 := L.s rfl (by decide)
  have f2 : mr M 130 51 = some 169 := L.r 164 rfl
  have f3 : ar M 169 1 10 := L.s rfl (by decide)
  refine x_aload_n dX12_gone_20 0 rfl ?_
  refine x_getR fdX12_126 rfl dX12_gone_21 f1.1 f1.2 f2 ?_
  refine x_iload_n dX12_gone_24 1 rfl ?_
  refine x_iald dX12_gone_25 f3.1 f3.2 (h1) ?_
  exact x_iret rfl dX12_gone_26 (Nat.le_refl _) (Nat.le_refl _) (k1)
set_option maxRecDepth 8000 in
theorem qX12_saves_0 {g : GG} {d : Nat} {M : MM} {P : Option Value → MM → Prop} {i1 : Int32} {la lb pa pb rl : Nat} (L : Lay M la lb pa pb rl)
    (k1 : K0 g YX12_saves YX12_isHall d 6 [.ref 130, .int i1] [(0, .ref 130), (1, .int i1)] [.ref 130] M P) :
    E0 g YX12_saves d 0 [(0, .ref 130), (1, .int i1)] [] M P := by
  have f1 : ob M 130 12 := L.s rfl (by decide)
  refine x_aload_n dX12_saves_0 0 rfl ?_
  refine x_aload_n dX12_saves_1 0 rfl ?_
  refine x_iload_n dX12_saves_2 1 rfl ?_
  refine EX.sub [0, 1] (K0.v (As := [.int i1]) (st := [.ref 130]) cvX12_350 dX12_saves_3 rfl rfl f1 rfl (Nat.le_of_ble_eq_true rfl) (k1)) rfl
set_option maxRecDepth 8000 in
theorem qX12_saves_6 {g : GG} {d : Nat} {M : MM} {P : Option Value → MM → Prop} {i1 : Int32} {s0 : Nat} {s1 : Int32} {M1 : MM} {la lb pa pb rl : Nat} (L : Lay M la lb pa pb rl)
    (qM1 : M1 = wi M s0 0 1)
    (h1 : ob M s0 12)
    (k1 : s1 = 0 → ¬ (mi M1 130 0) = 1 → K0 g YX12_saves YX12_goesOn d 46 [.ref 130, .int (-1)] [(0, .ref 130), (1, .int i1)] [] M1 P)
    (k2 : s1 = 0 → (mi M1 130 0) = 1 → P (some (.int 0)) M1)
    (k3 : ¬ (s1 = 0) → K0 g YX12_saves YX12_placeOf d 14 [.ref 130, .int i1] [(0, .ref 130), (1, .int i1)] [.ref s0] M P) :
    E0 g YX12_saves d 6 [(0, .ref 130), (1, .int i1)] [.int s1, .ref s0] M P := by
  have f1 : ob M 130 12 := L.s rfl (by decide)
  subst qM1
  refine x_if_eq 27 dX12_saves_6 (by decide) (fun c1 => ?_) (fun c1 => ?_)
  · refine x_iconst (v := 1) dX12_saves_27 (by decide) ?_
    refine x_putI fdX12_138 rfl (Or.inl rfl) dX12_saves_28 h1.1 h1.2 rfl rfl ?_
    refine x_aload_n dX12_saves_31 0 rfl ?_
    refine x_getI fdX12_138 rfl dX12_saves_32 f1.1 f1.2 ?_
    refine x_iconst (v := 1) dX12_saves_35 (by decide) ?_
    refine x_ic_ne 41 dX12_saves_36 (by decide) (fun c2 => ?_) (fun c2 => ?_)
    · refine x_aload_n dX12_saves_41 0 rfl ?_
      refine x_iconst (v := (-1)) dX12_saves_42 (by decide) ?_
      refine EX.sub [0, 1] (K0.v (As := [.int (-1)]) (st := []) cvX12_396 dX12_saves_43 rfl rfl f1 rfl (Nat.le_of_ble_eq_true rfl) (k1 c1 c2)) rfl
    · refine x_iconst (v := 0) dX12_saves_39 (by decide) ?_
      exact x_iret rfl dX12_saves_40 (Nat.le_refl _) (Nat.le_refl _) (k2 c1 c2)
  · refine x_aload_n dX12_saves_9 0 rfl ?_
    refine x_iload_n dX12_saves_10 1 rfl ?_
    refine EX.sub [0, 1] (K0.v (As := [.int i1]) (st := [.ref s0]) cvX12_356 dX12_saves_11 rfl rfl f1 rfl (Nat.le_of_ble_eq_true rfl) (k3 c1)) rfl
set_option maxRecDepth 8000 in
theorem qX12_saves_14 {g : GG} {d : Nat} {M : MM} {P : Option Value → MM → Prop} {i1 : Int32} {s0 : Nat} {s1 : Int32} {M1 : MM} {M2 : MM} {la lb pa pb rl : Nat} (L : Lay M la lb pa pb rl)
    (qM1 : M1 = wi M s0 0 1)
    (qM2 : M2 = wi M s0 0 0)
    (h1 : ob M s0 12)
    (k1 : s1 < (mi M 162 1) → ¬ (mi M1 130 0) = 1 → K0 g YX12_saves YX12_goesOn d 46 [.ref 130, .int (-1)] [(0, .ref 130), (1, .int i1)] [] M1 P)
    (k2 : s1 < (mi M 162 1) → (mi M1 130 0) = 1 → P (some (.int 0)) M1)
    (k3 : ¬ (s1 < (mi M 162 1)) → ¬ (mi M2 130 0) = 1 → K0 g YX12_saves YX12_goesOn d 46 [.ref 130, .int (-1)] [(0, .ref 130), (1, .int i1)] [] M2 P)
    (k4 : ¬ (s1 < (mi M 162 1)) → (mi M2 130 0) = 1 → P (some (.int 0)) M2) :
    E0 g YX12_saves d 14 [(0, .ref 130), (1, .int i1)] [.int s1, .ref s0] M P := by
  have f1 : ob M 130 12 := L.s rfl (by decide)
  have f2 : mr M 130 43 = some 162 := L.r 157 rfl
  have f3 : ar M 162 1 19 := L.s rfl (by decide)
  subst qM1 qM2
  refine x_aload_n dX12_saves_14 0 rfl ?_
  refine x_getR fdX12_105 rfl dX12_saves_15 f1.1 f1.2 f2 ?_
  refine x_iconst (v := 1) dX12_saves_18 (by decide) ?_
  refine x_iald dX12_saves_19 f3.1 f3.2 (by unfold vp_in; decide) ?_
  refine x_ic_lt 27 dX12_saves_20 (by decide) (fun c1 => ?_) (fun c1 => ?_)
  · refine x_iconst (v := 1) dX12_saves_27 (by decide) ?_
    refine x_putI fdX12_138 rfl (Or.inl rfl) dX12_saves_28 h1.1 h1.2 rfl rfl ?_
    refine x_aload_n dX12_saves_31 0 rfl ?_
    refine x_getI fdX12_138 rfl dX12_saves_32 f1.1 f1.2 ?_
    refine x_iconst (v := 1) dX12_saves_35 (by decide) ?_
    refine x_ic_ne 41 dX12_saves_36 (by decide) (fun c2 => ?_) (fun c2 => ?_)
    · refine x_aload_n dX12_saves_41 0 rfl ?_
      refine x_iconst (v := (-1)) dX12_saves_42 (by decide) ?_
      refine EX.sub [0, 1] (K0.v (As := [.int (-1)]) (st := []) cvX12_396 dX12_saves_43 rfl rfl f1 rfl (Nat.le_of_ble_eq_true rfl) (k1 c1 c2)) rfl
    · refine x_iconst (v := 0) dX12_saves_39 (by decide) ?_
      exact x_iret rfl dX12_saves_40 (Nat.le_refl _) (Nat.le_refl _) (k2 c1 c2)
  · refine x_iconst (v := 0) dX12_saves_23 (by decide) ?_
    refine x_goto 28 dX12_saves_24 (by decide) ?_
    refine x_putI fdX12_138 rfl (Or.inl rfl) dX12_saves_28 h1.1 h1.2 rfl rfl ?_
    refine x_aload_n dX12_saves_31 0 rfl ?_
    refine x_getI fdX12_138 rfl dX12_saves_32 f1.1 f1.2 ?_
    refine x_iconst (v := 1) dX12_saves_35 (by decide) ?_
    refine x_ic_ne 41 dX12_saves_36 (by decide) (fun c2 => ?_) (fun c2 => ?_)
    · refine x_aload_n dX12_saves_41 0 rfl ?_
      refine x_iconst (v := (-1)) dX12_saves_42 (by decide) ?_
      refine EX.sub [0, 1] (K0.v (As := [.int (-1)]) (st := []) cvX12_396 dX12_saves_43 rfl rfl f1 rfl (Nat.le_of_ble_eq_true rfl) (k3 c1 c2)) rfl
    · refine x_iconst (v := 0) dX12_saves_39 (by decide) ?_
      exact x_iret rfl dX12_saves_40 (Nat.le_refl _) (Nat.le_refl _) (k4 c1 c2)
set_option maxRecDepth 8000 in
theorem qX12_saves_46 {g : GG} {d : Nat} {M : MM} {P : Option Value → MM → Prop} {i1 : Int32} {la lb pa pb rl : Nat} (L : Lay M la lb pa pb rl)
    (k1 : K0 g YX12_saves YX12_goesOn d 56 [.ref 130, .int i1] [(0, .ref 130), (2, .int (mi M 130 53))] [] M P) :
    E0 g YX12_saves d 46 [(0, .ref 130), (1, .int i1)] [] M P := by
  have f1 : ob M 130 12 := L.s rfl (by decide)
  refine x_aload_n dX12_saves_46 0 rfl ?_
  refine x_getI fdX12_393 rfl dX12_saves_47 f1.1 f1.2 ?_
  refine x_istore_n (lv1 := [(2, .int (mi M 130 53)), (0, .ref 130), (1, .int i1)]) dX12_saves_50 (by decide) rfl ?_
  refine x_aload_n dX12_saves_51 1 rfl ?_
  refine x_iload_n dX12_saves_52 2 rfl ?_
  refine EX.sub [1, 0] (K0.v (As := [.int i1]) (st := []) cvX12_396 dX12_saves_53 rfl rfl f1 rfl (Nat.le_of_ble_eq_true rfl) (k1)) rfl
set_option maxRecDepth 8000 in
theorem qX12_saves_56 {g : GG} {d : Nat} {M : MM} {P : Option Value → MM → Prop} {i2 : Int32} {la lb pa pb rl : Nat} (L : Lay M la lb pa pb rl)
    (k1 : P (some (.int ((mi M 130 53) - i2))) M) :
    E0 g YX12_saves d 56 [(0, .ref 130), (2, .int i2)] [] M P := by
  have f1 : ob M 130 12 := L.s rfl (by decide)
  refine x_aload_n dX12_saves_56 0 rfl ?_
  refine x_getI fdX12_393 rfl dX12_saves_57 f1.1 f1.2 ?_
  refine x_iload_n dX12_saves_60 1 rfl ?_
  refine x_isub dX12_saves_61 ?_
  exact x_iret rfl dX12_saves_62 (Nat.le_refl _) (Nat.le_refl _) (k1)
set_option maxRecDepth 8000 in
theorem qX12_kin_0 {g : GG} {d : Nat} {M : MM} {P : Option Value → MM → Prop} {i1 : Int32} {M1 : MM} {la lb pa pb rl : Nat} (L : Lay M la lb pa pb rl)
    (qM1 : M1 = wi M 130 0 0)
    (k1 : K0 g YX12_kin YX12_isShot d 10 [.ref 130, .int i1] [(0, .ref 130), (1, .int i1)] [] M1 P) :
    E0 g YX12_kin d 0 [(0, .ref 130), (1, .int i1)] [] M P := by
  have f1 : ob M 130 12 := L.s rfl (by decide)
  subst qM1
  refine x_aload_n dX12_kin_0 0 rfl ?_
  refine x_iconst (v := 0) dX12_kin_1 (by decide) ?_
  refine x_putI fdX12_138 rfl (Or.inl rfl) dX12_kin_2 f1.1 f1.2 rfl rfl ?_
  refine x_aload_n dX12_kin_5 0 rfl ?_
  refine x_iload_n dX12_kin_6 1 rfl ?_
  refine EX.sub [0, 1] (K0.v (As := [.int i1]) (st := []) cvX12_347 dX12_kin_7 rfl rfl f1 rfl (Nat.le_of_ble_eq_true rfl) (k1)) rfl
set_option maxRecDepth 8000 in
theorem qX12_kin_10 {g : GG} {d : Nat} {M : MM} {P : Option Value → MM → Prop} {i1 : Int32} {s0 : Int32} {la lb pa pb rl : Nat} (L : Lay M la lb pa pb rl)
    (h1 : ¬ s0 = 0 → vp_in i1 20)
    (k1 : ¬ s0 = 0 → E0 g YX12_kin d 24 [(0, .ref 130), (2, .int (mi M 137 (i1 : Int32).toNatClampNeg)), (3, .int 0)] [] M P)
    (k2 : s0 = 0 → P (some (.int (-1))) M) :
    E0 g YX12_kin d 10 [(0, .ref 130), (1, .int i1)] [.int s0] M P := by
  have f1 : ob M 130 12 := L.s rfl (by decide)
  have f2 : mr M 130 15 = some 137 := L.r 132 rfl
  have f3 : ar M 137 1 20 := L.s rfl (by decide)
  refine x_if_ne 15 dX12_kin_10 (by decide) (fun c1 => ?_) (fun c1 => ?_)
  · refine x_aload_n dX12_kin_15 0 rfl ?_
    refine x_getR fdX12_29 rfl dX12_kin_16 f1.1 f1.2 f2 ?_
    refine x_iload_n dX12_kin_19 1 rfl ?_
    refine x_iald dX12_kin_20 f3.1 f3.2 (h1 c1) ?_
    refine x_istore_n (lv1 := [(2, .int (mi M 137 (i1 : Int32).toNatClampNeg)), (0, .ref 130), (1, .int i1)]) dX12_kin_21 (by decide) rfl ?_
    refine x_iconst (v := 0) dX12_kin_22 (by decide) ?_
    refine x_istore_n (lv1 := [(3, .int 0), (2, .int (mi M 137 (i1 : Int32).toNatClampNeg)), (0, .ref 130), (1, .int i1)]) dX12_kin_23 (by decide) rfl ?_
    exact EX.sub [2, 1, 0] (k1 c1) rfl
  · refine x_iconst (v := (-1)) dX12_kin_13 (by decide) ?_
    exact x_iret rfl dX12_kin_14 (Nat.le_refl _) (Nat.le_refl _) (k2 c1)
set_option maxRecDepth 8000 in
theorem qX12_kin_24 {g : GG} {d : Nat} {M : MM} {P : Option Value → MM → Prop} {i2 : Int32} {i3 : Int32}
    (k1 : i2 = i3 → P (some (.int i2)) M)
    (k2 : ¬ (i2 = i3) → E0 g YX12_kin d 34 [(0, .ref 130), (2, .int i2), (3, .int i2), (4, .int 0)] [] M P) :
    E0 g YX12_kin d 24 [(0, .ref 130), (2, .int i2), (3, .int i3)] [] M P := by
  refine x_iload_n dX12_kin_24 1 rfl ?_
  refine x_iload_n dX12_kin_25 2 rfl ?_
  refine x_ic_eq 78 dX12_kin_26 (by decide) (fun c1 => ?_) (fun c1 => ?_)
  · refine x_iload_n dX12_kin_78 1 rfl ?_
    exact x_iret rfl dX12_kin_79 (Nat.le_refl _) (Nat.le_refl _) (k1 c1)
  · refine x_iload_n dX12_kin_29 1 rfl ?_
    refine x_istore_n (lv1 := [(3, .int i2), (0, .ref 130), (2, .int i2)]) dX12_kin_30 (by decide) rfl ?_
    refine x_iconst (v := 0) dX12_kin_31 (by decide) ?_
    refine x_istore (lv1 := [(4, .int 0), (3, .int i2), (0, .ref 130), (2, .int i2)]) dX12_kin_32 (by decide) rfl ?_
    exact EX.sub [2, 3, 1, 0] (k2 c1) rfl
set_option maxRecDepth 8000 in
theorem qX12_kin_34 {g : GG} {d : Nat} {M : MM} {P : Option Value → MM → Prop} {i2 : Int32} {i3 : Int32} {i4 : Int32} {la lb pa pb rl : Nat} (L : Lay M la lb pa pb rl)
    (h1 : ¬ ((mi M 132 0) ≤ i4) → ((i3 >>> (i4 &&& 31)) &&& 1) = 1 → vp_in i4 20)
    (k1 : (mi M 132 0) ≤ i4 → E0 g YX12_kin d 24 [(0, .ref 130), (2, .int i2), (3, .int i3)] [] M P)
    (k2 : ¬ ((mi M 132 0) ≤ i4) → ¬ ((i3 >>> (i4 &&& 31)) &&& 1) = 1 → E0 g YX12_kin d 34 [(0, .ref 130), (2, .int (i2 ||| 0)), (3, .int i3), (4, .int (i4 + 1))] [] M P)
    (k3 : ¬ ((mi M 132 0) ≤ i4) → ((i3 >>> (i4 &&& 31)) &&& 1) = 1 → E0 g YX12_kin d 34 [(0, .ref 130), (2, .int (i2 ||| (mi M 137 (i4 : Int32).toNatClampNeg))), (3, .int i3), (4, .int (i4 + 1))] [] M P) :
    E0 g YX12_kin d 34 [(0, .ref 130), (2, .int i2), (3, .int i3), (4, .int i4)] [] M P := by
  have f1 : ob M 130 12 := L.s rfl (by decide)
  have f2 : mr M 130 10 = some 132 := L.r 127 rfl
  have f3 : ar M 132 1 4 := L.s rfl (by decide)
  have f4 : mr M 130 15 = some 137 := L.r 132 rfl
  have f5 : ar M 137 1 20 := L.s rfl (by decide)
  refine x_iload dX12_kin_34 3 rfl ?_
  refine x_aload_n dX12_kin_36 0 rfl ?_
  refine x_getR fdX12_13 rfl dX12_kin_37 f1.1 f1.2 f2 ?_
  refine x_iconst (v := 0) dX12_kin_40 (by decide) ?_
  refine x_iald dX12_kin_41 f3.1 f3.2 (by unfold vp_in; decide) ?_
  refine x_ic_ge 75 dX12_kin_42 (by decide) (fun c1 => ?_) (fun c1 => ?_)
  · refine x_goto 24 dX12_kin_75 (by decide) ?_
    exact EX.sub [0, 1, 2] (k1 c1) rfl
  · refine x_iload_n dX12_kin_45 1 rfl ?_
    refine x_iload_n dX12_kin_46 2 rfl ?_
    refine x_iload dX12_kin_47 3 rfl ?_
    refine x_ishr dX12_kin_49 ?_
    refine x_iconst (v := 1) dX12_kin_50 (by decide) ?_
    refine x_iand dX12_kin_51 ?_
    refine x_iconst (v := 1) dX12_kin_52 (by decide) ?_
    refine x_ic_ne 66 dX12_kin_53 (by decide) (fun c2 => ?_) (fun c2 => ?_)
    · refine x_iconst (v := 0) dX12_kin_66 (by decide) ?_
      refine x_ior dX12_kin_67 ?_
      refine x_istore_n (lv1 := [(2, .int (i2 ||| 0)), (0, .ref 130), (3, .int i3), (4, .int i4)]) dX12_kin_68 (by decide) rfl ?_
      refine x_iinc (v := (i4 + 1)) (lv1 := [(4, .int (i4 + 1)), (2, .int (i2 ||| 0)), (0, .ref 130), (3, .int i3)]) dX12_kin_69 3 rfl rfl (by decide) rfl ?_
      refine x_goto 34 dX12_kin_72 (by decide) ?_
      exact EX.sub [2, 1, 3, 0] (k2 c1 c2) rfl
    · refine x_aload_n dX12_kin_56 0 rfl ?_
      refine x_getR fdX12_29 rfl dX12_kin_57 f1.1 f1.2 f4 ?_
      refine x_iload dX12_kin_60 3 rfl ?_
      refine x_iald dX12_kin_62 f5.1 f5.2 (h1 c1 c2) ?_
      refine x_goto 67 dX12_kin_63 (by decide) ?_
      refine x_ior dX12_kin_67 ?_
      refine x_istore_n (lv1 := [(2, .int (i2 ||| (mi M 137 (i4 : Int32).toNatClampNeg))), (0, .ref 130), (3, .int i3), (4, .int i4)]) dX12_kin_68 (by decide) rfl ?_
      refine x_iinc (v := (i4 + 1)) (lv1 := [(4, .int (i4 + 1)), (2, .int (i2 ||| (mi M 137 (i4 : Int32).toNatClampNeg))), (0, .ref 130), (3, .int i3)]) dX12_kin_69 3 rfl rfl (by decide) rfl ?_
      refine x_goto 34 dX12_kin_72 (by decide) ?_
      exact EX.sub [2, 1, 3, 0] (k3 c1 c2) rfl
set_option maxRecDepth 8000 in
theorem qX12_ofSort_0 {g : GG} {d : Nat} {M : MM} {P : Option Value → MM → Prop} {i1 : Int32} {i2 : Int32}
    (k1 : E0 g YX12_ofSort d 5 [(0, .ref 130), (1, .int i1), (2, .int i2), (3, .int 0), (4, .int 0)] [] M P) :
    E0 g YX12_ofSort d 0 [(0, .ref 130), (1, .int i1), (2, .int i2)] [] M P := by
  refine x_iconst (v := 0) dX12_ofSort_0 (by decide) ?_
  refine x_istore_n (lv1 := [(3, .int 0), (0, .ref 130), (1, .int i1), (2, .int i2)]) dX12_ofSort_1 (by decide) rfl ?_
  refine x_iconst (v := 0) dX12_ofSort_2 (by decide) ?_
  refine x_istore (lv1 := [(4, .int 0), (3, .int 0), (0, .ref 130), (1, .int i1), (2, .int i2)]) dX12_ofSort_3 (by decide) rfl ?_
  exact EX.sub [2, 3, 4, 1, 0] k1 rfl
set_option maxRecDepth 8000 in
theorem qX12_ofSort_5 {g : GG} {d : Nat} {M : MM} {P : Option Value → MM → Prop} {i1 : Int32} {i2 : Int32} {i3 : Int32} {i4 : Int32} {la lb pa pb rl : Nat} (L : Lay M la lb pa pb rl)
    (h1 : ¬ ((mi M 132 0) ≤ i4) → ((i1 >>> (i4 &&& 31)) &&& 1) = 1 → vp_in i4 20)
    (k1 : (mi M 132 0) ≤ i4 → P (some (.int i3)) M)
    (k2 : ¬ ((mi M 132 0) ≤ i4) → ¬ ((i1 >>> (i4 &&& 31)) &&& 1) = 1 → E0 g YX12_ofSort d 5 [(0, .ref 130), (1, .int i1), (2, .int i2), (3, .int (i3 ||| 0)), (4, .int (i4 + 1))] [] M P)
    (k3 : ¬ ((mi M 132 0) ≤ i4) → ((i1 >>> (i4 &&& 31)) &&& 1) = 1 → ¬ (mi M 135 (i4 : Int32).toNatClampNeg) = i2 → E0 g YX12_ofSort d 5 [(0, .ref 130), (1, .int i1), (2, .int i2), (3, .int (i3 ||| 0)), (4, .int (i4 + 1))] [] M P)
    (k4 : ¬ ((mi M 132 0) ≤ i4) → ((i1 >>> (i4 &&& 31)) &&& 1) = 1 → (mi M 135 (i4 : Int32).toNatClampNeg) = i2 → E0 g YX12_ofSort d 5 [(0, .ref 130), (1, .int i1), (2, .int i2), (3, .int (i3 ||| ((1 : Int32) <<< (i4 &&& 31)))), (4, .int (i4 + 1))] [] M P) :
    E0 g YX12_ofSort d 5 [(0, .ref 130), (1, .int i1), (2, .int i2), (3, .int i3), (4, .int i4)] [] M P := by
  have f1 : ob M 130 12 := L.s rfl (by decide)
  have f2 : mr M 130 10 = some 132 := L.r 127 rfl
  have f3 : ar M 132 1 4 := L.s rfl (by decide)
  have f4 : mr M 130 13 = some 135 := L.r 130 rfl
  have f5 : ar M 135 1 20 := L.s rfl (by decide)
  refine x_iload dX12_ofSort_5 4 rfl ?_
  refine x_aload_n dX12_ofSort_7 0 rfl ?_
  refine x_getR fdX12_13 rfl dX12_ofSort_8 f1.1 f1.2 f2 ?_
  refine x_iconst (v := 0) dX12_ofSort_11 (by decide) ?_
  refine x_iald dX12_ofSort_12 f3.1 f3.2 (by unfold vp_in; decide) ?_
  refine x_ic_ge 54 dX12_ofSort_13 (by decide) (fun c1 => ?_) (fun c1 => ?_)
  · refine x_iload_n dX12_ofSort_54 3 rfl ?_
    exact x_iret rfl dX12_ofSort_55 (Nat.le_refl _) (Nat.le_refl _) (k1 c1)
  · refine x_iload_n dX12_ofSort_16 3 rfl ?_
    refine x_iload_n dX12_ofSort_17 1 rfl ?_
    refine x_iload dX12_ofSort_18 4 rfl ?_
    refine x_ishr dX12_ofSort_20 ?_
    refine x_iconst (v := 1) dX12_ofSort_21 (by decide) ?_
    refine x_iand dX12_ofSort_22 ?_
    refine x_iconst (v := 1) dX12_ofSort_23 (by decide) ?_
    refine x_ic_ne 45 dX12_ofSort_24 (by decide) (fun c2 => ?_) (fun c2 => ?_)
    · refine x_iconst (v := 0) dX12_ofSort_45 (by decide) ?_
      refine x_ior dX12_ofSort_46 ?_
      refine x_istore_n (lv1 := [(3, .int (i3 ||| 0)), (0, .ref 130), (1, .int i1), (2, .int i2), (4, .int i4)]) dX12_ofSort_47 (by decide) rfl ?_
      refine x_iinc (v := (i4 + 1)) (lv1 := [(4, .int (i4 + 1)), (3, .int (i3 ||| 0)), (0, .ref 130), (1, .int i1), (2, .int i2)]) dX12_ofSort_48 4 rfl rfl (by decide) rfl ?_
      refine x_goto 5 dX12_ofSort_51 (by decide) ?_
      exact EX.sub [2, 3, 4, 1, 0] (k2 c1 c2) rfl
    · refine x_aload_n dX12_ofSort_27 0 rfl ?_
      refine x_getR fdX12_23 rfl dX12_ofSort_28 f1.1 f1.2 f4 ?_
      refine x_iload dX12_ofSort_31 4 rfl ?_
      refine x_iald dX12_ofSort_33 f5.1 f5.2 (h1 c1 c2) ?_
      refine x_iload_n dX12_ofSort_34 2 rfl ?_
      refine x_ic_ne 45 dX12_ofSort_35 (by decide) (fun c3 => ?_) (fun c3 => ?_)
      · refine x_iconst (v := 0) dX12_ofSort_45 (by decide) ?_
        refine x_ior dX12_ofSort_46 ?_
        refine x_istore_n (lv1 := [(3, .int (i3 ||| 0)), (0, .ref 130), (1, .int i1), (2, .int i2), (4, .int i4)]) dX12_ofSort_47 (by decide) rfl ?_
        refine x_iinc (v := (i4 + 1)) (lv1 := [(4, .int (i4 + 1)), (3, .int (i3 ||| 0)), (0, .ref 130), (1, .int i1), (2, .int i2)]) dX12_ofSort_48 4 rfl rfl (by decide) rfl ?_
        refine x_goto 5 dX12_ofSort_51 (by decide) ?_
        exact EX.sub [2, 3, 4, 1, 0] (k3 c1 c2 c3) rfl
      · refine x_iconst (v := 1) dX12_ofSort_38 (by decide) ?_
        refine x_iload dX12_ofSort_39 4 rfl ?_
        refine x_ishl dX12_ofSort_41 ?_
        refine x_goto 46 dX12_ofSort_42 (by decide) ?_
        refine x_ior dX12_ofSort_46 ?_
        refine x_istore_n (lv1 := [(3, .int (i3 ||| ((1 : Int32) <<< (i4 &&& 31)))), (0, .ref 130), (1, .int i1), (2, .int i2), (4, .int i4)]) dX12_ofSort_47 (by decide) rfl ?_
        refine x_iinc (v := (i4 + 1)) (lv1 := [(4, .int (i4 + 1)), (3, .int (i3 ||| ((1 : Int32) <<< (i4 &&& 31)))), (0, .ref 130), (1, .int i1), (2, .int i2)]) dX12_ofSort_48 4 rfl rfl (by decide) rfl ?_
        refine x_goto 5 dX12_ofSort_51 (by decide) ?_
        exact EX.sub [2, 3, 4, 1, 0] (k4 c1 c2 c3) rfl
set_option maxRecDepth 8000 in
theorem qX12_hoard_0 {g : GG} {d : Nat} {M : MM} {P : Option Value → MM → Prop} {i1 : Int32} {M1 : MM} {la lb pa pb rl : Nat} (L : Lay M la lb pa pb rl)
    (qM1 : M1 = wi M 130 0 0)
    (k1 : K0 g YX12_hoard YX12_within d 12 [.int i1, .int 0, .int 9] [(0, .ref 130), (1, .int i1)] [] M1 P) :
    E0 g YX12_hoard d 0 [(0, .ref 130), (1, .int i1)] [] M P := by
  have f1 : ob M 130 12 := L.s rfl (by decide)
  subst qM1
  refine x_aload_n dX12_hoard_0 0 rfl ?_
  refine x_iconst (v := 0) dX12_hoard_1 (by decide) ?_
  refine x_putI fdX12_138 rfl (Or.inl rfl) dX12_hoard_2 f1.1 f1.2 rfl rfl ?_
  refine x_iload_n dX12_hoard_5 1 rfl ?_
  refine x_iconst (v := 0) dX12_hoard_6 (by decide) ?_
  refine x_bipush (v := 9) dX12_hoard_7 (by decide) ?_
  refine EX.sub [0, 1] (K0.s (As := [.int i1, .int 0, .int 9]) (st := []) csX12_253 dX12_hoard_9 rfl rfl (Nat.le_of_ble_eq_true rfl) (k1)) rfl
set_option maxRecDepth 8000 in
theorem qX12_hoard_12 {g : GG} {d : Nat} {M : MM} {P : Option Value → MM → Prop} {i1 : Int32} {s0 : Int32}
    (k1 : ¬ s0 = 0 → E0 g YX12_hoard d 24 [(0, .ref 130), (1, .int i1), (2, .int (-1)), (3, .int 0), (4, .int 0)] [] M P)
    (k2 : s0 = 0 → P (some (.int (-1))) M) :
    E0 g YX12_hoard d 12 [(0, .ref 130), (1, .int i1)] [.int s0] M P := by
  refine x_if_ne 17 dX12_hoard_12 (by decide) (fun c1 => ?_) (fun c1 => ?_)
  · refine x_iconst (v := (-1)) dX12_hoard_17 (by decide) ?_
    refine x_istore_n (lv1 := [(2, .int (-1)), (0, .ref 130), (1, .int i1)]) dX12_hoard_18 (by decide) rfl ?_
    refine x_iconst (v := 0) dX12_hoard_19 (by decide) ?_
    refine x_istore_n (lv1 := [(3, .int 0), (2, .int (-1)), (0, .ref 130), (1, .int i1)]) dX12_hoard_20 (by decide) rfl ?_
    refine x_iconst (v := 0) dX12_hoard_21 (by decide) ?_
    refine x_istore (lv1 := [(4, .int 0), (3, .int 0), (2, .int (-1)), (0, .ref 130), (1, .int i1)]) dX12_hoard_22 (by decide) rfl ?_
    exact EX.sub [3, 4, 2, 1, 0] (k1 c1) rfl
  · refine x_iconst (v := (-1)) dX12_hoard_15 (by decide) ?_
    exact x_iret rfl dX12_hoard_16 (Nat.le_refl _) (Nat.le_refl _) (k2 c1)
set_option maxRecDepth 8000 in
theorem qX12_hoard_24 {g : GG} {d : Nat} {M : MM} {P : Option Value → MM → Prop} {i1 : Int32} {i2 : Int32} {i3 : Int32} {i4 : Int32} {la lb pa pb rl : Nat} (L : Lay M la lb pa pb rl)
    (k1 : (mi M 132 1) ≤ i4 → P (some (.int i2)) M)
    (k2 : ¬ ((mi M 132 1) ≤ i4) → K0 g YX12_hoard YX12_drawerOf d 43 [.ref 130, .int i4] [(0, .ref 130), (1, .int i1), (2, .int i2), (3, .int i3), (4, .int i4)] [.ref 130, .ref 130] M P) :
    E0 g YX12_hoard d 24 [(0, .ref 130), (1, .int i1), (2, .int i2), (3, .int i3), (4, .int i4)] [] M P := by
  have f1 : ob M 130 12 := L.s rfl (by decide)
  have f2 : mr M 130 10 = some 132 := L.r 127 rfl
  have f3 : ar M 132 1 4 := L.s rfl (by decide)
  refine x_iload dX12_hoard_24 4 rfl ?_
  refine x_aload_n dX12_hoard_26 0 rfl ?_
  refine x_getR fdX12_13 rfl dX12_hoard_27 f1.1 f1.2 f2 ?_
  refine x_iconst (v := 1) dX12_hoard_30 (by decide) ?_
  refine x_iald dX12_hoard_31 f3.1 f3.2 (by unfold vp_in; decide) ?_
  refine x_ic_ge 73 dX12_hoard_32 (by decide) (fun c1 => ?_) (fun c1 => ?_)
  · refine x_iload_n dX12_hoard_73 2 rfl ?_
    exact x_iret rfl dX12_hoard_74 (Nat.le_refl _) (Nat.le_refl _) (k1 c1)
  · refine x_aload_n dX12_hoard_35 0 rfl ?_
    refine x_aload_n dX12_hoard_36 0 rfl ?_
    refine x_aload_n dX12_hoard_37 0 rfl ?_
    refine x_iload dX12_hoard_38 4 rfl ?_
    refine EX.sub [0, 1, 2, 3, 4] (K0.v (As := [.int i4]) (st := [.ref 130, .ref 130]) cvX12_353 dX12_hoard_40 rfl rfl f1 rfl (Nat.le_of_ble_eq_true rfl) (k2 c1)) rfl
set_option maxRecDepth 8000 in
theorem qX12_hoard_43 {g : GG} {d : Nat} {M : MM} {P : Option Value → MM → Prop} {i1 : Int32} {i2 : Int32} {i3 : Int32} {i4 : Int32} {s0 : Nat} {s1 : Nat} {s2 : Int32}
    (h1 : ob M s1 12)
    (k1 : K0 g YX12_hoard YX12_ofSort d 47 [.ref s1, .int s2, .int i1] [(0, .ref 130), (1, .int i1), (2, .int i2), (3, .int i3), (4, .int i4)] [.ref s0] M P) :
    E0 g YX12_hoard d 43 [(0, .ref 130), (1, .int i1), (2, .int i2), (3, .int i3), (4, .int i4)] [.int s2, .ref s1, .ref s0] M P := by
  refine x_iload_n dX12_hoard_43 1 rfl ?_
  refine EX.sub [0, 1, 2, 3, 4] (K0.v (As := [.int s2, .int i1]) (st := [.ref s0]) cvX12_399 dX12_hoard_44 rfl rfl h1 rfl (Nat.le_of_ble_eq_true rfl) (k1)) rfl
set_option maxRecDepth 8000 in
theorem qX12_hoard_47 {g : GG} {d : Nat} {M : MM} {P : Option Value → MM → Prop} {i1 : Int32} {i2 : Int32} {i3 : Int32} {i4 : Int32} {s0 : Nat} {s1 : Int32}
    (h1 : ob M s0 12)
    (k1 : K0 g YX12_hoard YX12_minutesOf d 50 [.ref s0, .int s1] [(0, .ref 130), (1, .int i1), (2, .int i2), (3, .int i3), (4, .int i4)] [] M P) :
    E0 g YX12_hoard d 47 [(0, .ref 130), (1, .int i1), (2, .int i2), (3, .int i3), (4, .int i4)] [.int s1, .ref s0] M P := by
  refine EX.sub [0, 1, 2, 3, 4] (K0.v (As := [.int s1]) (st := []) cvX12_369 dX12_hoard_47 rfl rfl h1 rfl (Nat.le_of_ble_eq_true rfl) (k1)) rfl
set_option maxRecDepth 8000 in
theorem qX12_hoard_50 {g : GG} {d : Nat} {M : MM} {P : Option Value → MM → Prop} {i1 : Int32} {i2 : Int32} {i3 : Int32} {i4 : Int32} {s0 : Int32}
    (k1 : i3 < s0 → E0 g YX12_hoard d 24 [(0, .ref 130), (1, .int i1), (2, .int i4), (3, .int s0), (4, .int (i4 + 1))] [] M P)
    (k2 : ¬ (i3 < s0) → E0 g YX12_hoard d 24 [(0, .ref 130), (1, .int i1), (2, .int i2), (3, .int i3), (4, .int (i4 + 1))] [] M P) :
    E0 g YX12_hoard d 50 [(0, .ref 130), (1, .int i1), (2, .int i2), (3, .int i3), (4, .int i4)] [.int s0] M P := by
  refine x_istore (lv1 := [(5, .int s0), (0, .ref 130), (1, .int i1), (2, .int i2), (3, .int i3), (4, .int i4)]) dX12_hoard_50 (by decide) rfl ?_
  refine x_iload dX12_hoard_52 0 rfl ?_
  refine x_iload_n dX12_hoard_54 4 rfl ?_
  refine x_ic_gt 61 dX12_hoard_55 (by decide) (fun c1 => ?_) (fun c1 => ?_)
  · refine x_iload dX12_hoard_61 5 rfl ?_
    refine x_istore_n (lv1 := [(2, .int i4), (5, .int s0), (0, .ref 130), (1, .int i1), (3, .int i3), (4, .int i4)]) dX12_hoard_63 (by decide) rfl ?_
    refine x_iload dX12_hoard_64 1 rfl ?_
    refine x_istore_n (lv1 := [(3, .int s0), (2, .int i4), (5, .int s0), (0, .ref 130), (1, .int i1), (4, .int i4)]) dX12_hoard_66 (by decide) rfl ?_
    refine x_iinc (v := (i4 + 1)) (lv1 := [(4, .int (i4 + 1)), (3, .int s0), (2, .int i4), (5, .int s0), (0, .ref 130), (1, .int i1)]) dX12_hoard_67 5 rfl rfl (by decide) rfl ?_
    refine x_goto 24 dX12_hoard_70 (by decide) ?_
    exact EX.sub [4, 5, 2, 1, 0] (k1 c1) rfl
  · refine x_goto 67 dX12_hoard_58 (by decide) ?_
    refine x_iinc (v := (i4 + 1)) (lv1 := [(4, .int (i4 + 1)), (5, .int s0), (0, .ref 130), (1, .int i1), (2, .int i2), (3, .int i3)]) dX12_hoard_67 5 rfl rfl (by decide) rfl ?_
    refine x_goto 24 dX12_hoard_70 (by decide) ?_
    exact EX.sub [2, 3, 4, 5, 0] (k2 c1) rfl
set_option maxRecDepth 8000 in
theorem qX12_unlikeFrom_0 {g : GG} {d : Nat} {M : MM} {P : Option Value → MM → Prop} {i1 : Int32}
    (k1 : E0 g YX12_unlikeFrom d 7 [(0, .ref 130), (2, .int 0), (3, .int 0), (4, .int i1)] [] M P) :
    E0 g YX12_unlikeFrom d 0 [(0, .ref 130), (1, .int i1)] [] M P := by
  refine x_iconst (v := 0) dX12_unlikeFrom_0 (by decide) ?_
  refine x_istore_n (lv1 := [(2, .int 0), (0, .ref 130), (1, .int i1)]) dX12_unlikeFrom_1 (by decide) rfl ?_
  refine x_iconst (v := 0) dX12_unlikeFrom_2 (by decide) ?_
  refine x_istore_n (lv1 := [(3, .int 0), (2, .int 0), (0, .ref 130), (1, .int i1)]) dX12_unlikeFrom_3 (by decide) rfl ?_
  refine x_iload_n dX12_unlikeFrom_4 3 rfl ?_
  refine x_istore (lv1 := [(4, .int i1), (3, .int 0), (2, .int 0), (0, .ref 130), (1, .int i1)]) dX12_unlikeFrom_5 (by decide) rfl ?_
  exact EX.sub [3, 2, 1, 0] k1 rfl
set_option maxRecDepth 8000 in
theorem qX12_unlikeFrom_7 {g : GG} {d : Nat} {M : MM} {P : Option Value → MM → Prop} {i2 : Int32} {i3 : Int32} {i4 : Int32} {la lb pa pb rl : Nat} (L : Lay M la lb pa pb rl)
    (h1 : ¬ ((mi M 132 0) ≤ i4) → ¬ (((mi M 162 0) >>> (i4 &&& 31)) &&& 1) = 0 → vp_in i4 20)
    (h2 : ¬ ((mi M 132 0) ≤ i4) → ¬ (((mi M 162 0) >>> (i4 &&& 31)) &&& 1) = 0 → ¬ ((i2 >>> ((mi M 135 (i4 : Int32).toNatClampNeg) &&& 31)) &&& 1) = 1 → vp_in i4 20)
    (k1 : (mi M 132 0) ≤ i4 → P (some (.int i3)) M)
    (k2 : ¬ ((mi M 132 0) ≤ i4) → ¬ (((mi M 162 0) >>> (i4 &&& 31)) &&& 1) = 0 → ¬ ((i2 >>> ((mi M 135 (i4 : Int32).toNatClampNeg) &&& 31)) &&& 1) = 1 → E0 g YX12_unlikeFrom d 7 [(0, .ref 130), (2, .int (i2 ||| ((1 : Int32) <<< ((mi M 135 (i4 : Int32).toNatClampNeg) &&& 31)))), (3, .int (i3 + 1)), (4, .int (i4 + 1))] [] M P)
    (k3 : ¬ ((mi M 132 0) ≤ i4) → ¬ (((mi M 162 0) >>> (i4 &&& 31)) &&& 1) = 0 → ((i2 >>> ((mi M 135 (i4 : Int32).toNatClampNeg) &&& 31)) &&& 1) = 1 → P (some (.int i3)) M)
    (k4 : ¬ ((mi M 132 0) ≤ i4) → (((mi M 162 0) >>> (i4 &&& 31)) &&& 1) = 0 → E0 g YX12_unlikeFrom d 7 [(0, .ref 130), (2, .int i2), (3, .int i3), (4, .int (i4 + 1))] [] M P) :
    E0 g YX12_unlikeFrom d 7 [(0, .ref 130), (2, .int i2), (3, .int i3), (4, .int i4)] [] M P := by
  have f1 : ob M 130 12 := L.s rfl (by decide)
  have f2 : mr M 130 10 = some 132 := L.r 127 rfl
  have f3 : ar M 132 1 4 := L.s rfl (by decide)
  have f4 : mr M 130 43 = some 162 := L.r 157 rfl
  have f5 : ar M 162 1 19 := L.s rfl (by decide)
  have f6 : mr M 130 13 = some 135 := L.r 130 rfl
  have f7 : ar M 135 1 20 := L.s rfl (by decide)
  refine x_iload dX12_unlikeFrom_7 3 rfl ?_
  refine x_aload_n dX12_unlikeFrom_9 0 rfl ?_
  refine x_getR fdX12_13 rfl dX12_unlikeFrom_10 f1.1 f1.2 f2 ?_
  refine x_iconst (v := 0) dX12_unlikeFrom_13 (by decide) ?_
  refine x_iald dX12_unlikeFrom_14 f3.1 f3.2 (by unfold vp_in; decide) ?_
  refine x_ic_ge 73 dX12_unlikeFrom_15 (by decide) (fun c1 => ?_) (fun c1 => ?_)
  · refine x_iload_n dX12_unlikeFrom_73 2 rfl ?_
    exact x_iret rfl dX12_unlikeFrom_74 (Nat.le_refl _) (Nat.le_refl _) (k1 c1)
  · refine x_aload_n dX12_unlikeFrom_18 0 rfl ?_
    refine x_getR fdX12_105 rfl dX12_unlikeFrom_19 f1.1 f1.2 f4 ?_
    refine x_iconst (v := 0) dX12_unlikeFrom_22 (by decide) ?_
    refine x_iald dX12_unlikeFrom_23 f5.1 f5.2 (by unfold vp_in; decide) ?_
    refine x_iload dX12_unlikeFrom_24 3 rfl ?_
    refine x_ishr dX12_unlikeFrom_26 ?_
    refine x_iconst (v := 1) dX12_unlikeFrom_27 (by decide) ?_
    refine x_iand dX12_unlikeFrom_28 ?_
    refine x_if_ne 35 dX12_unlikeFrom_29 (by decide) (fun c2 => ?_) (fun c2 => ?_)
    · refine x_iload_n dX12_unlikeFrom_35 1 rfl ?_
      refine x_aload_n dX12_unlikeFrom_36 0 rfl ?_
      refine x_getR fdX12_23 rfl dX12_unlikeFrom_37 f1.1 f1.2 f6 ?_
      refine x_iload dX12_unlikeFrom_40 3 rfl ?_
      refine x_iald dX12_unlikeFrom_42 f7.1 f7.2 (h1 c1 c2) ?_
      refine x_ishr dX12_unlikeFrom_43 ?_
      refine x_iconst (v := 1) dX12_unlikeFrom_44 (by decide) ?_
      refine x_iand dX12_unlikeFrom_45 ?_
      refine x_iconst (v := 1) dX12_unlikeFrom_46 (by decide) ?_
      refine x_ic_ne 52 dX12_unlikeFrom_47 (by decide) (fun c3 => ?_) (fun c3 => ?_)
      · refine x_iload_n dX12_unlikeFrom_52 1 rfl ?_
        refine x_iconst (v := 1) dX12_unlikeFrom_53 (by decide) ?_
        refine x_aload_n dX12_unlikeFrom_54 0 rfl ?_
        refine x_getR fdX12_23 rfl dX12_unlikeFrom_55 f1.1 f1.2 f6 ?_
        refine x_iload dX12_unlikeFrom_58 3 rfl ?_
        refine x_iald dX12_unlikeFrom_60 f7.1 f7.2 (h2 c1 c2 c3) ?_
        refine x_ishl dX12_unlikeFrom_61 ?_
        refine x_ior dX12_unlikeFrom_62 ?_
        refine x_istore_n (lv1 := [(2, .int (i2 ||| ((1 : Int32) <<< ((mi M 135 (i4 : Int32).toNatClampNeg) &&& 31)))), (0, .ref 130), (3, .int i3), (4, .int i4)]) dX12_unlikeFrom_63 (by decide) rfl ?_
        refine x_iinc (v := (i3 + 1)) (lv1 := [(3, .int (i3 + 1)), (2, .int (i2 ||| ((1 : Int32) <<< ((mi M 135 (i4 : Int32).toNatClampNeg) &&& 31)))), (0, .ref 130), (4, .int i4)]) dX12_unlikeFrom_64 2 rfl rfl (by decide) rfl ?_
        refine x_iinc (v := (i4 + 1)) (lv1 := [(4, .int (i4 + 1)), (3, .int (i3 + 1)), (2, .int (i2 ||| ((1 : Int32) <<< ((mi M 135 (i4 : Int32).toNatClampNeg) &&& 31)))), (0, .ref 130)]) dX12_unlikeFrom_67 3 rfl rfl (by decide) rfl ?_
        refine x_goto 7 dX12_unlikeFrom_70 (by decide) ?_
        exact EX.sub [3, 2, 1, 0] (k2 c1 c2 c3) rfl
      · refine x_iload_n dX12_unlikeFrom_50 2 rfl ?_
        exact x_iret rfl dX12_unlikeFrom_51 (Nat.le_refl _) (Nat.le_refl _) (k3 c1 c2 c3)
    · refine x_goto 67 dX12_unlikeFrom_32 (by decide) ?_
      refine x_iinc (v := (i4 + 1)) (lv1 := [(4, .int (i4 + 1)), (0, .ref 130), (2, .int i2), (3, .int i3)]) dX12_unlikeFrom_67 3 rfl rfl (by decide) rfl ?_
      refine x_goto 7 dX12_unlikeFrom_70 (by decide) ?_
      exact EX.sub [1, 2, 3, 0] (k4 c1 c2) rfl
set_option maxRecDepth 8000 in
theorem qX12_longest_0 {g : GG} {d : Nat} {M : MM} {P : Option Value → MM → Prop}  {M1 : MM} {la lb pa pb rl : Nat} (L : Lay M la lb pa pb rl)
    (qM1 : M1 = wi M 130 0 0)
    (k1 : E0 g YX12_longest d 9 [(0, .ref 130), (1, .int 0), (2, .int 0)] [] M1 P) :
    E0 g YX12_longest d 0 [(0, .ref 130)] [] M P := by
  have f1 : ob M 130 12 := L.s rfl (by decide)
  subst qM1
  refine x_aload_n dX12_longest_0 0 rfl ?_
  refine x_iconst (v := 0) dX12_longest_1 (by decide) ?_
  refine x_putI fdX12_138 rfl (Or.inl rfl) dX12_longest_2 f1.1 f1.2 rfl rfl ?_
  refine x_iconst (v := 0) dX12_longest_5 (by decide) ?_
  refine x_istore_n (lv1 := [(1, .int 0), (0, .ref 130)]) dX12_longest_6 (by decide) rfl ?_
  refine x_iconst (v := 0) dX12_longest_7 (by decide) ?_
  refine x_istore_n (lv1 := [(2, .int 0), (1, .int 0), (0, .ref 130)]) dX12_longest_8 (by decide) rfl ?_
  exact EX.sub [2, 1, 0] k1 rfl
set_option maxRecDepth 8000 in
theorem qX12_longest_9 {g : GG} {d : Nat} {M : MM} {P : Option Value → MM → Prop} {i1 : Int32} {i2 : Int32} {la lb pa pb rl : Nat} (L : Lay M la lb pa pb rl)
    (k1 : (mi M 132 0) ≤ i2 → P (some (.int i1)) M)
    (k2 : ¬ ((mi M 132 0) ≤ i2) → ¬ (((mi M 162 0) >>> (i2 &&& 31)) &&& 1) = 1 → E0 g YX12_longest d 9 [(0, .ref 130), (1, .int i1), (2, .int (i2 + 1))] [] M P)
    (k3 : ¬ ((mi M 132 0) ≤ i2) → (((mi M 162 0) >>> (i2 &&& 31)) &&& 1) = 1 → K0 g YX12_longest YX12_unlikeFrom d 39 [.ref 130, .int i2] [(0, .ref 130), (2, .int i2)] [.int i1] M P) :
    E0 g YX12_longest d 9 [(0, .ref 130), (1, .int i1), (2, .int i2)] [] M P := by
  have f1 : ob M 130 12 := L.s rfl (by decide)
  have f2 : mr M 130 10 = some 132 := L.r 127 rfl
  have f3 : ar M 132 1 4 := L.s rfl (by decide)
  have f4 : mr M 130 43 = some 162 := L.r 157 rfl
  have f5 : ar M 162 1 19 := L.s rfl (by decide)
  refine x_iload_n dX12_longest_9 2 rfl ?_
  refine x_aload_n dX12_longest_10 0 rfl ?_
  refine x_getR fdX12_13 rfl dX12_longest_11 f1.1 f1.2 f2 ?_
  refine x_iconst (v := 0) dX12_longest_14 (by decide) ?_
  refine x_iald dX12_longest_15 f3.1 f3.2 (by unfold vp_in; decide) ?_
  refine x_ic_ge 49 dX12_longest_16 (by decide) (fun c1 => ?_) (fun c1 => ?_)
  · refine x_iload_n dX12_longest_49 1 rfl ?_
    exact x_iret rfl dX12_longest_50 (Nat.le_refl _) (Nat.le_refl _) (k1 c1)
  · refine x_aload_n dX12_longest_19 0 rfl ?_
    refine x_getR fdX12_105 rfl dX12_longest_20 f1.1 f1.2 f4 ?_
    refine x_iconst (v := 0) dX12_longest_23 (by decide) ?_
    refine x_iald dX12_longest_24 f5.1 f5.2 (by unfold vp_in; decide) ?_
    refine x_iload_n dX12_longest_25 2 rfl ?_
    refine x_ishr dX12_longest_26 ?_
    refine x_iconst (v := 1) dX12_longest_27 (by decide) ?_
    refine x_iand dX12_longest_28 ?_
    refine x_iconst (v := 1) dX12_longest_29 (by decide) ?_
    refine x_ic_ne 43 dX12_longest_30 (by decide) (fun c2 => ?_) (fun c2 => ?_)
    · refine x_iinc (v := (i2 + 1)) (lv1 := [(2, .int (i2 + 1)), (0, .ref 130), (1, .int i1)]) dX12_longest_43 2 rfl rfl (by decide) rfl ?_
      refine x_goto 9 dX12_longest_46 (by decide) ?_
      exact EX.sub [1, 2, 0] (k2 c1 c2) rfl
    · refine x_iload_n dX12_longest_33 1 rfl ?_
      refine x_aload_n dX12_longest_34 0 rfl ?_
      refine x_iload_n dX12_longest_35 2 rfl ?_
      refine EX.sub [0, 2] (K0.v (As := [.int i2]) (st := [.int i1]) cvX12_402 dX12_longest_36 rfl rfl f1 rfl (Nat.le_of_ble_eq_true rfl) (k3 c1 c2)) rfl
set_option maxRecDepth 8000 in
theorem qX12_longest_39 {g : GG} {d : Nat} {M : MM} {P : Option Value → MM → Prop} {i2 : Int32} {s0 : Int32} {s1 : Int32}
    (h1 : 1 ≤ d)
    (k1 : E0 g YX12_longest d 9 [(0, .ref 130), (1, .int (if s0 < s1 then s1 else s0)), (2, .int (i2 + 1))] [] M P) :
    E0 g YX12_longest d 39 [(0, .ref 130), (2, .int i2)] [.int s1, .int s0] M P := by
  refine x_max dX12_longest_39 mmX12_405 gk_max1 gk_math gk_max2 h1 (Nat.le_refl _) (Nat.le_refl _) (Nat.le_of_ble_eq_true rfl) ?_
  refine x_istore_n (lv1 := [(1, .int (if s0 < s1 then s1 else s0)), (0, .ref 130), (2, .int i2)]) dX12_longest_42 (by decide) rfl ?_
  refine x_iinc (v := (i2 + 1)) (lv1 := [(2, .int (i2 + 1)), (1, .int (if s0 < s1 then s1 else s0)), (0, .ref 130)]) dX12_longest_43 2 rfl rfl (by decide) rfl ?_
  refine x_goto 9 dX12_longest_46 (by decide) ?_
  exact EX.sub [2, 1, 0] k1 rfl
set_option maxRecDepth 8000 in
theorem qX12_lasts_0 {g : GG} {d : Nat} {M : MM} {P : Option Value → MM → Prop}  {M1 : MM} {la lb pa pb rl : Nat} (L : Lay M la lb pa pb rl)
    (qM1 : M1 = wi M 130 0 0)
    (k1 : K0 g YX12_lasts YX12_copies d 18 [.ref 162, .int 0, .ref 163, .int 0] [(0, .ref 130)] [] M1 P) :
    E0 g YX12_lasts d 0 [(0, .ref 130)] [] M P := by
  have f1 : ob M 130 12 := L.s rfl (by decide)
  have f2 : mr M 130 43 = some 162 := L.r 157 rfl
  have f3 : mr M 130 44 = some 163 := L.r 158 rfl
  subst qM1
  refine x_aload_n dX12_lasts_0 0 rfl ?_
  refine x_iconst (v := 0) dX12_lasts_1 (by decide) ?_
  refine x_putI fdX12_138 rfl (Or.inl rfl) dX12_lasts_2 f1.1 f1.2 rfl rfl ?_
  refine x_aload_n dX12_lasts_5 0 rfl ?_
  refine x_getR fdX12_105 rfl dX12_lasts_6 f1.1 f1.2 f2 ?_
  refine x_iconst (v := 0) dX12_lasts_9 (by decide) ?_
  refine x_aload_n dX12_lasts_10 0 rfl ?_
  refine x_getR fdX12_108 rfl dX12_lasts_11 f1.1 f1.2 f3 ?_
  refine x_iconst (v := 0) dX12_lasts_14 (by decide) ?_
  refine EX.sub [0] (K0.s (As := [.ref 162, .int 0, .ref 163, .int 0]) (st := []) csX12_359 dX12_lasts_15 rfl rfl (Nat.le_of_ble_eq_true rfl) (k1)) rfl
set_option maxRecDepth 8000 in
theorem qX12_lasts_18 {g : GG} {d : Nat} {M : MM} {P : Option Value → MM → Prop} 
    (k1 : E0 g YX12_lasts d 20 [(0, .ref 130), (1, .int 0)] [] M P) :
    E0 g YX12_lasts d 18 [(0, .ref 130)] [] M P := by
  refine x_iconst (v := 0) dX12_lasts_18 (by decide) ?_
  refine x_istore_n (lv1 := [(1, .int 0), (0, .ref 130)]) dX12_lasts_19 (by decide) rfl ?_
  exact EX.sub [1, 0] k1 rfl
set_option maxRecDepth 8000 in
theorem qX12_lasts_20 {g : GG} {d : Nat} {M : MM} {P : Option Value → MM → Prop} {i1 : Int32} {la lb pa pb rl : Nat} (L : Lay M la lb pa pb rl)
    (k1 : 100 ≤ i1 → ¬ (mi M 162 0) = 0 → K0 g YX12_lasts YX12_copies d 82 [.ref 163, .int 0, .ref 162, .int 0] [(1, .int i1), (2, .int 0)] [] M P)
    (k2 : 100 ≤ i1 → (mi M 162 0) = 0 → K0 g YX12_lasts YX12_copies d 82 [.ref 163, .int 0, .ref 162, .int 0] [(1, .int i1), (2, .int 1)] [] M P)
    (k3 : ¬ (100 ≤ i1) → (mi M 162 0) = 0 → ¬ (mi M 162 0) = 0 → K0 g YX12_lasts YX12_copies d 82 [.ref 163, .int 0, .ref 162, .int 0] [(1, .int i1), (2, .int 0)] [] M P)
    (k4 : ¬ (100 ≤ i1) → (mi M 162 0) = 0 → (mi M 162 0) = 0 → K0 g YX12_lasts YX12_copies d 82 [.ref 163, .int 0, .ref 162, .int 0] [(1, .int i1), (2, .int 1)] [] M P)
    (k5 : ¬ (100 ≤ i1) → ¬ ((mi M 162 0) = 0) → (mi M 132 1) ≤ 0 → ¬ (mi M 162 0) = 0 → K0 g YX12_lasts YX12_copies d 82 [.ref 163, .int 0, .ref 162, .int 0] [(1, .int i1), (2, .int 0)] [] M P)
    (k6 : ¬ (100 ≤ i1) → ¬ ((mi M 162 0) = 0) → (mi M 132 1) ≤ 0 → (mi M 162 0) = 0 → K0 g YX12_lasts YX12_copies d 82 [.ref 163, .int 0, .ref 162, .int 0] [(1, .int i1), (2, .int 1)] [] M P)
    (k7 : ¬ (100 ≤ i1) → ¬ ((mi M 162 0) = 0) → ¬ ((mi M 132 1) ≤ 0) → K0 g YX12_lasts YX12_shows d 48 [.ref 130] [(0, .ref 130), (1, .int i1)] [] M P) :
    E0 g YX12_lasts d 20 [(0, .ref 130), (1, .int i1)] [] M P := by
  have f1 : ob M 130 12 := L.s rfl (by decide)
  have f2 : mr M 130 43 = some 162 := L.r 157 rfl
  have f3 : ar M 162 1 19 := L.s rfl (by decide)
  have f4 : mr M 130 44 = some 163 := L.r 158 rfl
  have f5 : mr M 130 10 = some 132 := L.r 127 rfl
  have f6 : ar M 132 1 4 := L.s rfl (by decide)
  refine x_iload_n dX12_lasts_20 1 rfl ?_
  refine x_bipush (v := 100) dX12_lasts_21 (by decide) ?_
  refine x_ic_ge 54 dX12_lasts_23 (by decide) (fun c1 => ?_) (fun c1 => ?_)
  · refine x_aload_n dX12_lasts_54 0 rfl ?_
    refine x_getR fdX12_105 rfl dX12_lasts_55 f1.1 f1.2 f2 ?_
    refine x_iconst (v := 0) dX12_lasts_58 (by decide) ?_
    refine x_iald dX12_lasts_59 f3.1 f3.2 (by unfold vp_in; decide) ?_
    refine x_if_ne 67 dX12_lasts_60 (by decide) (fun c2 => ?_) (fun c2 => ?_)
    · refine x_iconst (v := 0) dX12_lasts_67 (by decide) ?_
      refine x_istore_n (lv1 := [(2, .int 0), (0, .ref 130), (1, .int i1)]) dX12_lasts_68 (by decide) rfl ?_
      refine x_aload_n dX12_lasts_69 1 rfl ?_
      refine x_getR fdX12_108 rfl dX12_lasts_70 f1.1 f1.2 f4 ?_
      refine x_iconst (v := 0) dX12_lasts_73 (by decide) ?_
      refine x_aload_n dX12_lasts_74 1 rfl ?_
      refine x_getR fdX12_105 rfl dX12_lasts_75 f1.1 f1.2 f2 ?_
      refine x_iconst (v := 0) dX12_lasts_78 (by decide) ?_
      refine EX.sub [2, 0] (K0.s (As := [.ref 163, .int 0, .ref 162, .int 0]) (st := []) csX12_359 dX12_lasts_79 rfl rfl (Nat.le_of_ble_eq_true rfl) (k1 c1 c2)) rfl
    · refine x_iconst (v := 1) dX12_lasts_63 (by decide) ?_
      refine x_goto 68 dX12_lasts_64 (by decide) ?_
      refine x_istore_n (lv1 := [(2, .int 1), (0, .ref 130), (1, .int i1)]) dX12_lasts_68 (by decide) rfl ?_
      refine x_aload_n dX12_lasts_69 1 rfl ?_
      refine x_getR fdX12_108 rfl dX12_lasts_70 f1.1 f1.2 f4 ?_
      refine x_iconst (v := 0) dX12_lasts_73 (by decide) ?_
      refine x_aload_n dX12_lasts_74 1 rfl ?_
      refine x_getR fdX12_105 rfl dX12_lasts_75 f1.1 f1.2 f2 ?_
      refine x_iconst (v := 0) dX12_lasts_78 (by decide) ?_
      refine EX.sub [2, 0] (K0.s (As := [.ref 163, .int 0, .ref 162, .int 0]) (st := []) csX12_359 dX12_lasts_79 rfl rfl (Nat.le_of_ble_eq_true rfl) (k2 c1 c2)) rfl
  · refine x_aload_n dX12_lasts_26 0 rfl ?_
    refine x_getR fdX12_105 rfl dX12_lasts_27 f1.1 f1.2 f2 ?_
    refine x_iconst (v := 0) dX12_lasts_30 (by decide) ?_
    refine x_iald dX12_lasts_31 f3.1 f3.2 (by unfold vp_in; decide) ?_
    refine x_if_eq 54 dX12_lasts_32 (by decide) (fun c2 => ?_) (fun c2 => ?_)
    · refine x_aload_n dX12_lasts_54 0 rfl ?_
      refine x_getR fdX12_105 rfl dX12_lasts_55 f1.1 f1.2 f2 ?_
      refine x_iconst (v := 0) dX12_lasts_58 (by decide) ?_
      refine x_iald dX12_lasts_59 f3.1 f3.2 (by unfold vp_in; decide) ?_
      refine x_if_ne 67 dX12_lasts_60 (by decide) (fun c3 => ?_) (fun c3 => ?_)
      · refine x_iconst (v := 0) dX12_lasts_67 (by decide) ?_
        refine x_istore_n (lv1 := [(2, .int 0), (0, .ref 130), (1, .int i1)]) dX12_lasts_68 (by decide) rfl ?_
        refine x_aload_n dX12_lasts_69 1 rfl ?_
        refine x_getR fdX12_108 rfl dX12_lasts_70 f1.1 f1.2 f4 ?_
        refine x_iconst (v := 0) dX12_lasts_73 (by decide) ?_
        refine x_aload_n dX12_lasts_74 1 rfl ?_
        refine x_getR fdX12_105 rfl dX12_lasts_75 f1.1 f1.2 f2 ?_
        refine x_iconst (v := 0) dX12_lasts_78 (by decide) ?_
        refine EX.sub [2, 0] (K0.s (As := [.ref 163, .int 0, .ref 162, .int 0]) (st := []) csX12_359 dX12_lasts_79 rfl rfl (Nat.le_of_ble_eq_true rfl) (k3 c1 c2 c3)) rfl
      · refine x_iconst (v := 1) dX12_lasts_63 (by decide) ?_
        refine x_goto 68 dX12_lasts_64 (by decide) ?_
        refine x_istore_n (lv1 := [(2, .int 1), (0, .ref 130), (1, .int i1)]) dX12_lasts_68 (by decide) rfl ?_
        refine x_aload_n dX12_lasts_69 1 rfl ?_
        refine x_getR fdX12_108 rfl dX12_lasts_70 f1.1 f1.2 f4 ?_
        refine x_iconst (v := 0) dX12_lasts_73 (by decide) ?_
        refine x_aload_n dX12_lasts_74 1 rfl ?_
        refine x_getR fdX12_105 rfl dX12_lasts_75 f1.1 f1.2 f2 ?_
        refine x_iconst (v := 0) dX12_lasts_78 (by decide) ?_
        refine EX.sub [2, 0] (K0.s (As := [.ref 163, .int 0, .ref 162, .int 0]) (st := []) csX12_359 dX12_lasts_79 rfl rfl (Nat.le_of_ble_eq_true rfl) (k4 c1 c2 c3)) rfl
    · refine x_aload_n dX12_lasts_35 0 rfl ?_
      refine x_getR fdX12_13 rfl dX12_lasts_36 f1.1 f1.2 f5 ?_
      refine x_iconst (v := 1) dX12_lasts_39 (by decide) ?_
      refine x_iald dX12_lasts_40 f6.1 f6.2 (by unfold vp_in; decide) ?_
      refine x_if_le 54 dX12_lasts_41 (by decide) (fun c3 => ?_) (fun c3 => ?_)
      · refine x_aload_n dX12_lasts_54 0 rfl ?_
        refine x_getR fdX12_105 rfl dX12_lasts_55 f1.1 f1.2 f2 ?_
        refine x_iconst (v := 0) dX12_lasts_58 (by decide) ?_
        refine x_iald dX12_lasts_59 f3.1 f3.2 (by unfold vp_in; decide) ?_
        refine x_if_ne 67 dX12_lasts_60 (by decide) (fun c4 => ?_) (fun c4 => ?_)
        · refine x_iconst (v := 0) dX12_lasts_67 (by decide) ?_
          refine x_istore_n (lv1 := [(2, .int 0), (0, .ref 130), (1, .int i1)]) dX12_lasts_68 (by decide) rfl ?_
          refine x_aload_n dX12_lasts_69 1 rfl ?_
          refine x_getR fdX12_108 rfl dX12_lasts_70 f1.1 f1.2 f4 ?_
          refine x_iconst (v := 0) dX12_lasts_73 (by decide) ?_
          refine x_aload_n dX12_lasts_74 1 rfl ?_
          refine x_getR fdX12_105 rfl dX12_lasts_75 f1.1 f1.2 f2 ?_
          refine x_iconst (v := 0) dX12_lasts_78 (by decide) ?_
          refine EX.sub [2, 0] (K0.s (As := [.ref 163, .int 0, .ref 162, .int 0]) (st := []) csX12_359 dX12_lasts_79 rfl rfl (Nat.le_of_ble_eq_true rfl) (k5 c1 c2 c3 c4)) rfl
        · refine x_iconst (v := 1) dX12_lasts_63 (by decide) ?_
          refine x_goto 68 dX12_lasts_64 (by decide) ?_
          refine x_istore_n (lv1 := [(2, .int 1), (0, .ref 130), (1, .int i1)]) dX12_lasts_68 (by decide) rfl ?_
          refine x_aload_n dX12_lasts_69 1 rfl ?_
          refine x_getR fdX12_108 rfl dX12_lasts_70 f1.1 f1.2 f4 ?_
          refine x_iconst (v := 0) dX12_lasts_73 (by decide) ?_
          refine x_aload_n dX12_lasts_74 1 rfl ?_
          refine x_getR fdX12_105 rfl dX12_lasts_75 f1.1 f1.2 f2 ?_
          refine x_iconst (v := 0) dX12_lasts_78 (by decide) ?_
          refine EX.sub [2, 0] (K0.s (As := [.ref 163, .int 0, .ref 162, .int 0]) (st := []) csX12_359 dX12_lasts_79 rfl rfl (Nat.le_of_ble_eq_true rfl) (k6 c1 c2 c3 c4)) rfl
      · refine x_aload_n dX12_lasts_44 0 rfl ?_
        refine EX.sub [0, 1] (K0.v (As := []) (st := []) cvX12_366 dX12_lasts_45 rfl rfl f1 rfl (Nat.le_of_ble_eq_true rfl) (k7 c1 c2 c3)) rfl
set_option maxRecDepth 8000 in
theorem qX12_lasts_48 {g : GG} {d : Nat} {M : MM} {P : Option Value → MM → Prop} {i1 : Int32}
    (k1 : E0 g YX12_lasts d 20 [(0, .ref 130), (1, .int (i1 + 1))] [] M P) :
    E0 g YX12_lasts d 48 [(0, .ref 130), (1, .int i1)] [] M P := by
  refine x_iinc (v := (i1 + 1)) (lv1 := [(1, .int (i1 + 1)), (0, .ref 130)]) dX12_lasts_48 1 rfl rfl (by decide) rfl ?_
  refine x_goto 20 dX12_lasts_51 (by decide) ?_
  exact EX.sub [1, 0] k1 rfl
set_option maxRecDepth 8000 in
theorem qX12_lasts_82 {g : GG} {d : Nat} {M : MM} {P : Option Value → MM → Prop} {i1 : Int32} {i2 : Int32}
    (k1 : i2 = 0 → P (some (.int (-1))) M)
    (k2 : ¬ (i2 = 0) → 100 ≤ i1 → P (some (.int (-1))) M)
    (k3 : ¬ (i2 = 0) → ¬ (100 ≤ i1) → P (some (.int i1)) M) :
    E0 g YX12_lasts d 82 [(1, .int i1), (2, .int i2)] [] M P := by
  refine x_iload_n dX12_lasts_82 1 rfl ?_
  refine x_if_eq 96 dX12_lasts_83 (by decide) (fun c1 => ?_) (fun c1 => ?_)
  · refine x_iconst (v := (-1)) dX12_lasts_96 (by decide) ?_
    exact x_iret rfl dX12_lasts_97 (Nat.le_refl _) (Nat.le_refl _) (k1 c1)
  · refine x_iload_n dX12_lasts_86 0 rfl ?_
    refine x_bipush (v := 100) dX12_lasts_87 (by decide) ?_
    refine x_ic_ge 96 dX12_lasts_89 (by decide) (fun c2 => ?_) (fun c2 => ?_)
    · refine x_iconst (v := (-1)) dX12_lasts_96 (by decide) ?_
      exact x_iret rfl dX12_lasts_97 (Nat.le_refl _) (Nat.le_refl _) (k2 c1 c2)
    · refine x_iload_n dX12_lasts_92 0 rfl ?_
      refine x_goto 97 dX12_lasts_93 (by decide) ?_
      exact x_iret rfl dX12_lasts_97 (Nat.le_refl _) (Nat.le_refl _) (k3 c1 c2)
set_option maxRecDepth 8000 in
theorem qX12_sense_0 {g : GG} {d : Nat} {M : MM} {P : Option Value → MM → Prop}  {M1 : MM} {la lb pa pb rl : Nat} (L : Lay M la lb pa pb rl)
    (qM1 : M1 = wi M 130 0 0)
    (k1 : K0 g YX12_sense YX12_makesSense d 15 [.ref 130, .int (mi M1 162 0)] [] [] M1 P) :
    E0 g YX12_sense d 0 [(0, .ref 130)] [] M P := by
  have f1 : ob M 130 12 := L.s rfl (by decide)
  have f2 : mr M 130 43 = some 162 := L.r 157 rfl
  have f3 : ar M 162 1 19 := L.s rfl (by decide)
  subst qM1
  let M1 : MM := wi M 130 0 0
  refine x_aload_n dX12_sense_0 0 rfl ?_
  refine x_iconst (v := 0) dX12_sense_1 (by decide) ?_
  refine x_putI fdX12_138 rfl (Or.inl rfl) dX12_sense_2 f1.1 f1.2 rfl rfl ?_
  refine x_aload_n dX12_sense_5 0 rfl ?_
  refine x_aload_n dX12_sense_6 0 rfl ?_
  refine x_getR fdX12_105 rfl dX12_sense_7 f1.1 f1.2 f2 ?_
  refine x_iconst (v := 0) dX12_sense_10 (by decide) ?_
  refine x_iald dX12_sense_11 f3.1 f3.2 (by unfold vp_in; decide) ?_
  refine EX.sub [] (K0.v (As := [.int (mi M1 162 0)]) (st := []) cvX12_387 dX12_sense_12 rfl rfl f1 rfl (Nat.le_of_ble_eq_true rfl) (k1)) rfl
set_option maxRecDepth 8000 in
theorem qX12_sense_15 {g : GG} {d : Nat} {M : MM} {P : Option Value → MM → Prop} {s0 : Int32}
    (h1 : s0 &&& 1 = s0)
    (k1 : P (some (.int s0)) M) :
    E0 g YX12_sense d 15 [] [.int s0] M P := by
  exact x_zret rfl dX12_sense_15 (h1) (Nat.le_refl _) (Nat.le_refl _) (k1)
set_option maxRecDepth 8000 in
theorem qX12_orders_0 {g : GG} {d : Nat} {M : MM} {P : Option Value → MM → Prop} {i1 : Int32} {i2 : Int32} {i3 : Int32} {i4 : Int32} {M1 : MM} {la lb pa pb rl : Nat} (L : Lay M la lb pa pb rl)
    (qM1 : M1 = wi M 130 56 i4)
    (k1 : ¬ i2 = 0 → E0 g YX12_orders d 54 [(0, .ref 130), (1, .int i1), (2, .int i2), (3, .int i3), (4, .int i4), (5, .int 0)] [] M P)
    (k2 : i2 = 0 → (mi M 130 56) < i4 → E0 g YX12_orders d 23 [(0, .ref 130), (5, .int 0)] [] M1 P)
    (k3 : i2 = 0 → ¬ ((mi M 130 56) < i4) → P none M) :
    E0 g YX12_orders d 0 [(0, .ref 130), (1, .int i1), (2, .int i2), (3, .int i3), (4, .int i4)] [] M P := by
  have f1 : ob M 130 12 := L.s rfl (by decide)
  subst qM1
  refine x_iload_n dX12_orders_0 2 rfl ?_
  refine x_if_ne 51 dX12_orders_1 (by decide) (fun c1 => ?_) (fun c1 => ?_)
  · refine x_iconst (v := 0) dX12_orders_51 (by decide) ?_
    refine x_istore (lv1 := [(5, .int 0), (0, .ref 130), (1, .int i1), (2, .int i2), (3, .int i3), (4, .int i4)]) dX12_orders_52 (by decide) rfl ?_
    exact EX.sub [1, 2, 3, 4, 5, 0] (k1 c1) rfl
  · refine x_iload dX12_orders_4 4 rfl ?_
    refine x_aload_n dX12_orders_6 0 rfl ?_
    refine x_getI fdX12_410 rfl dX12_orders_7 f1.1 f1.2 ?_
    refine x_ic_gt 14 dX12_orders_10 (by decide) (fun c2 => ?_) (fun c2 => ?_)
    · refine x_aload_n dX12_orders_14 0 rfl ?_
      refine x_iload dX12_orders_15 4 rfl ?_
      refine x_putI fdX12_410 rfl (Or.inl rfl) dX12_orders_17 f1.1 f1.2 rfl rfl ?_
      refine x_iconst (v := 0) dX12_orders_20 (by decide) ?_
      refine x_istore (lv1 := [(5, .int 0), (0, .ref 130), (1, .int i1), (2, .int i2), (3, .int i3), (4, .int i4)]) dX12_orders_21 (by decide) rfl ?_
      exact EX.sub [1, 0] (k2 c1 c2) rfl
    · exact x_vret rfl dX12_orders_13 (Nat.le_refl _) (Nat.le_refl _) (k3 c1 c2)
set_option maxRecDepth 8000 in
theorem qX12_orders_23 {g : GG} {d : Nat} {M : MM} {P : Option Value → MM → Prop} {i5 : Int32} {M1 : MM} {la lb pa pb rl : Nat} (L : Lay M la lb pa pb rl)
    (qM1 : M1 = wi M 171 (i5 : Int32).toNatClampNeg (mi M 170 (i5 : Int32).toNatClampNeg))
    (h1 : ¬ (6 ≤ i5) → vp_in i5 6)
    (h2 : ¬ (6 ≤ i5) → vp_in i5 6)
    (k1 : 6 ≤ i5 → P none M)
    (k2 : ¬ (6 ≤ i5) → E0 g YX12_orders d 23 [(0, .ref 130), (5, .int (i5 + 1))] [] M1 P) :
    E0 g YX12_orders d 23 [(0, .ref 130), (5, .int i5)] [] M P := by
  have f1 : ob M 130 12 := L.s rfl (by decide)
  have f2 : mr M 130 55 = some 171 := L.r 166 rfl
  have f3 : mr M 130 54 = some 170 := L.r 165 rfl
  have f4 : ar M 170 1 6 := L.s rfl (by decide)
  have f5 : ar M 171 1 6 := L.s rfl (by decide)
  subst qM1
  refine x_iload dX12_orders_23 1 rfl ?_
  refine x_bipush (v := 6) dX12_orders_25 (by decide) ?_
  refine x_ic_ge 50 dX12_orders_27 (by decide) (fun c1 => ?_) (fun c1 => ?_)
  · exact x_vret rfl dX12_orders_50 (Nat.le_refl _) (Nat.le_refl _) (k1 c1)
  · refine x_aload_n dX12_orders_30 0 rfl ?_
    refine x_getR fdX12_132 rfl dX12_orders_31 f1.1 f1.2 f2 ?_
    refine x_iload dX12_orders_34 1 rfl ?_
    refine x_aload_n dX12_orders_36 0 rfl ?_
    refine x_getR fdX12_129 rfl dX12_orders_37 f1.1 f1.2 f3 ?_
    refine x_iload dX12_orders_40 1 rfl ?_
    refine x_iald dX12_orders_42 f4.1 f4.2 (h1 c1) ?_
    refine x_iast dX12_orders_43 f5.1 f5.2 (h2 c1) ?_
    refine x_iinc (v := (i5 + 1)) (lv1 := [(5, .int (i5 + 1)), (0, .ref 130)]) dX12_orders_44 1 rfl rfl (by decide) rfl ?_
    refine x_goto 23 dX12_orders_47 (by decide) ?_
    exact EX.sub [1, 0] (k2 c1) rfl
set_option maxRecDepth 8000 in
theorem qX12_orders_54 {g : GG} {d : Nat} {M : MM} {P : Option Value → MM → Prop} {i1 : Int32} {i2 : Int32} {i3 : Int32} {i4 : Int32} {i5 : Int32} {la lb pa pb rl : Nat} (L : Lay M la lb pa pb rl)
    (k1 : (mi M 132 1) ≤ i5 → P none M)
    (k2 : ¬ ((mi M 132 1) ≤ i5) → ¬ ((i2 >>> (i5 &&& 31)) &&& 1) = 0 → K0 g YX12_orders YX12_takesOut d 85 [.ref 130, .int i5, .int i3] [(0, .ref 130), (1, .int i1), (2, .int i2), (3, .int i3), (4, .int i4), (5, .int i5)] [.int i3] M P)
    (k3 : ¬ ((mi M 132 1) ≤ i5) → ((i2 >>> (i5 &&& 31)) &&& 1) = 0 → E0 g YX12_orders d 124 [(0, .ref 130), (1, .int i1), (2, .int i2), (3, .int i3), (4, .int i4), (5, .int i5)] [] M P) :
    E0 g YX12_orders d 54 [(0, .ref 130), (1, .int i1), (2, .int i2), (3, .int i3), (4, .int i4), (5, .int i5)] [] M P := by
  have f1 : ob M 130 12 := L.s rfl (by decide)
  have f2 : mr M 130 10 = some 132 := L.r 127 rfl
  have f3 : ar M 132 1 4 := L.s rfl (by decide)
  refine x_iload dX12_orders_54 5 rfl ?_
  refine x_aload_n dX12_orders_56 0 rfl ?_
  refine x_getR fdX12_13 rfl dX12_orders_57 f1.1 f1.2 f2 ?_
  refine x_iconst (v := 1) dX12_orders_60 (by decide) ?_
  refine x_iald dX12_orders_61 f3.1 f3.2 (by unfold vp_in; decide) ?_
  refine x_ic_ge 130 dX12_orders_62 (by decide) (fun c1 => ?_) (fun c1 => ?_)
  · exact x_vret rfl dX12_orders_130 (Nat.le_refl _) (Nat.le_refl _) (k1 c1)
  · refine x_iload_n dX12_orders_65 2 rfl ?_
    refine x_iload dX12_orders_66 5 rfl ?_
    refine x_ishr dX12_orders_68 ?_
    refine x_iconst (v := 1) dX12_orders_69 (by decide) ?_
    refine x_iand dX12_orders_70 ?_
    refine x_if_ne 77 dX12_orders_71 (by decide) (fun c2 => ?_) (fun c2 => ?_)
    · refine x_iload_n dX12_orders_77 3 rfl ?_
      refine x_aload_n dX12_orders_78 0 rfl ?_
      refine x_iload dX12_orders_79 5 rfl ?_
      refine x_iload_n dX12_orders_81 3 rfl ?_
      refine EX.sub [0, 1, 2, 3, 4, 5] (K0.v (As := [.int i5, .int i3]) (st := [.int i3]) cvX12_340 dX12_orders_82 rfl rfl f1 rfl (Nat.le_of_ble_eq_true rfl) (k2 c1 c2)) rfl
    · refine x_goto 124 dX12_orders_74 (by decide) ?_
      exact EX.sub [0, 1, 2, 3, 4, 5] (k3 c1 c2) rfl
set_option maxRecDepth 8000 in
theorem qX12_orders_85 {g : GG} {d : Nat} {M : MM} {P : Option Value → MM → Prop} {i1 : Int32} {i2 : Int32} {i3 : Int32} {i4 : Int32} {i5 : Int32} {s0 : Int32} {s1 : Int32} {M1 : MM} {la lb pa pb rl : Nat} (L : Lay M la lb pa pb rl)
    (qM1 : M1 = wi M 170 (i1 : Int32).toNatClampNeg i5)
    (h1 : vp_in i1 6)
    (k1 : K0 g YX12_orders YX12_minutesOf d 120 [.ref 130, .int (s0 &&& (s1 ^^^ (-1)))] [(0, .ref 130), (1, .int i1), (2, .int i2), (3, .int i3), (4, .int i4), (5, .int i5)] [.int i4, .int (s0 &&& (s1 ^^^ (-1))), .int (i2 &&& (((1 : Int32) <<< (i5 &&& 31)) ^^^ (-1))), .int (i1 + 1), .ref 130] M1 P) :
    E0 g YX12_orders d 85 [(0, .ref 130), (1, .int i1), (2, .int i2), (3, .int i3), (4, .int i4), (5, .int i5)] [.int s1, .int s0] M P := by
  have f1 : ob M 130 12 := L.s rfl (by decide)
  have f2 : mr M 130 54 = some 170 := L.r 165 rfl
  have f3 : ar M 170 1 6 := L.s rfl (by decide)
  subst qM1
  refine x_iconst (v := (-1)) dX12_orders_85 (by decide) ?_
  refine x_ixor dX12_orders_86 ?_
  refine x_iand dX12_orders_87 ?_
  refine x_istore (lv1 := [(6, .int (s0 &&& (s1 ^^^ (-1)))), (0, .ref 130), (1, .int i1), (2, .int i2), (3, .int i3), (4, .int i4), (5, .int i5)]) dX12_orders_88 (by decide) rfl ?_
  refine x_aload_n dX12_orders_90 1 rfl ?_
  refine x_getR fdX12_129 rfl dX12_orders_91 f1.1 f1.2 f2 ?_
  refine x_iload_n dX12_orders_94 2 rfl ?_
  refine x_iload dX12_orders_95 6 rfl ?_
  refine x_iast dX12_orders_97 f3.1 f3.2 (h1) ?_
  refine x_aload_n dX12_orders_98 1 rfl ?_
  refine x_iload_n dX12_orders_99 2 rfl ?_
  refine x_iconst (v := 1) dX12_orders_100 (by decide) ?_
  refine x_iadd dX12_orders_101 ?_
  refine x_iload_n dX12_orders_102 3 rfl ?_
  refine x_iconst (v := 1) dX12_orders_103 (by decide) ?_
  refine x_iload dX12_orders_104 6 rfl ?_
  refine x_ishl dX12_orders_106 ?_
  refine x_iconst (v := (-1)) dX12_orders_107 (by decide) ?_
  refine x_ixor dX12_orders_108 ?_
  refine x_iand dX12_orders_109 ?_
  refine x_iload dX12_orders_110 0 rfl ?_
  refine x_iload dX12_orders_112 5 rfl ?_
  refine x_aload_n dX12_orders_114 1 rfl ?_
  refine x_iload dX12_orders_115 0 rfl ?_
  refine EX.sub [1, 2, 3, 4, 5, 6] (K0.v (As := [.int (s0 &&& (s1 ^^^ (-1)))]) (st := [.int i4, .int (s0 &&& (s1 ^^^ (-1))), .int (i2 &&& (((1 : Int32) <<< (i5 &&& 31)) ^^^ (-1))), .int (i1 + 1), .ref 130]) cvX12_369 dX12_orders_117 rfl rfl f1 rfl (Nat.le_of_ble_eq_true rfl) (k1)) rfl
set_option maxRecDepth 8000 in
theorem qX12_orders_120 {g : GG} {d : Nat} {M : MM} {P : Option Value → MM → Prop} {i1 : Int32} {i2 : Int32} {i3 : Int32} {i4 : Int32} {i5 : Int32} {s0 : Nat} {s1 : Int32} {s2 : Int32} {s3 : Int32} {s4 : Int32} {s5 : Int32}
    (h1 : ob M s0 12)
    (k1 : K0 g YX12_orders YX12_orders d 124 [.ref s0, .int s1, .int s2, .int s3, .int (s4 + s5)] [(0, .ref 130), (1, .int i1), (2, .int i2), (3, .int i3), (4, .int i4), (5, .int i5)] [] M P) :
    E0 g YX12_orders d 120 [(0, .ref 130), (1, .int i1), (2, .int i2), (3, .int i3), (4, .int i4), (5, .int i5)] [.int s5, .int s4, .int s3, .int s2, .int s1, .ref s0] M P := by
  refine x_iadd dX12_orders_120 ?_
  refine EX.sub [0, 1, 2, 3, 4, 5] (K0.v (As := [.int s1, .int s2, .int s3, .int (s4 + s5)]) (st := []) cvX12_413 dX12_orders_121 rfl rfl h1 rfl (Nat.le_of_ble_eq_true rfl) (k1)) rfl
set_option maxRecDepth 8000 in
theorem qX12_orders_124 {g : GG} {d : Nat} {M : MM} {P : Option Value → MM → Prop} {i1 : Int32} {i2 : Int32} {i3 : Int32} {i4 : Int32} {i5 : Int32}
    (k1 : E0 g YX12_orders d 54 [(0, .ref 130), (1, .int i1), (2, .int i2), (3, .int i3), (4, .int i4), (5, .int (i5 + 1))] [] M P) :
    E0 g YX12_orders d 124 [(0, .ref 130), (1, .int i1), (2, .int i2), (3, .int i3), (4, .int i4), (5, .int i5)] [] M P := by
  refine x_iinc (v := (i5 + 1)) (lv1 := [(5, .int (i5 + 1)), (0, .ref 130), (1, .int i1), (2, .int i2), (3, .int i3), (4, .int i4)]) dX12_orders_124 5 rfl rfl (by decide) rfl ?_
  refine x_goto 54 dX12_orders_127 (by decide) ?_
  exact EX.sub [1, 2, 3, 4, 5, 0] k1 rfl
set_option maxRecDepth 8000 in
theorem qX12_order_0 {g : GG} {d : Nat} {M : MM} {P : Option Value → MM → Prop} {i1 : Int32} {M1 : MM} {la lb pa pb rl : Nat} (L : Lay M la lb pa pb rl)
    (qM1 : M1 = wi M 130 0 0)
    (k1 : K0 g YX12_order YX12_within d 27 [.int i1, .int (-1), .int (((mi M1 132 1) - (mi M1 162 1)) - 1)] [(0, .ref 130), (1, .int i1)] [] M1 P) :
    E0 g YX12_order d 0 [(0, .ref 130), (1, .int i1)] [] M P := by
  have f1 : ob M 130 12 := L.s rfl (by decide)
  have f2 : mr M 130 10 = some 132 := L.r 127 rfl
  have f3 : ar M 132 1 4 := L.s rfl (by decide)
  have f4 : mr M 130 43 = some 162 := L.r 157 rfl
  have f5 : ar M 162 1 19 := L.s rfl (by decide)
  subst qM1
  let M1 : MM := wi M 130 0 0
  refine x_aload_n dX12_order_0 0 rfl ?_
  refine x_iconst (v := 0) dX12_order_1 (by decide) ?_
  refine x_putI fdX12_138 rfl (Or.inl rfl) dX12_order_2 f1.1 f1.2 rfl rfl ?_
  refine x_aload_n dX12_order_5 0 rfl ?_
  refine x_getR fdX12_13 rfl dX12_order_6 f1.1 f1.2 f2 ?_
  refine x_iconst (v := 1) dX12_order_9 (by decide) ?_
  refine x_iald dX12_order_10 f3.1 f3.2 (by unfold vp_in; decide) ?_
  refine x_aload_n dX12_order_11 0 rfl ?_
  refine x_getR fdX12_105 rfl dX12_order_12 f1.1 f1.2 f4 ?_
  refine x_iconst (v := 1) dX12_order_15 (by decide) ?_
  refine x_iald dX12_order_16 f5.1 f5.2 (by unfold vp_in; decide) ?_
  refine x_isub dX12_order_17 ?_
  refine x_istore_n (lv1 := [(2, .int ((mi M1 132 1) - (mi M1 162 1))), (0, .ref 130), (1, .int i1)]) dX12_order_18 (by decide) rfl ?_
  refine x_iload_n dX12_order_19 2 rfl ?_
  refine x_iconst (v := (-1)) dX12_order_20 (by decide) ?_
  refine x_iload_n dX12_order_21 0 rfl ?_
  refine x_iconst (v := 1) dX12_order_22 (by decide) ?_
  refine x_isub dX12_order_23 ?_
  refine EX.sub [1, 2] (K0.s (As := [.int i1, .int (-1), .int (((mi M1 132 1) - (mi M1 162 1)) - 1)]) (st := []) csX12_253 dX12_order_24 rfl rfl (Nat.le_of_ble_eq_true rfl) (k1)) rfl
set_option maxRecDepth 8000 in
theorem qX12_order_27 {g : GG} {d : Nat} {M : MM} {P : Option Value → MM → Prop} {i1 : Int32} {s0 : Int32} {la lb pa pb rl : Nat} (L : Lay M la lb pa pb rl)
    (k1 : ¬ s0 = 0 → E0 g YX12_order d 43 [(0, .ref 130), (1, .int i1), (3, .int 0), (4, .int (mi M 162 1))] [] M P)
    (k2 : s0 = 0 → P (some (.int (-2))) M) :
    E0 g YX12_order d 27 [(0, .ref 130), (1, .int i1)] [.int s0] M P := by
  have f1 : ob M 130 12 := L.s rfl (by decide)
  have f2 : mr M 130 43 = some 162 := L.r 157 rfl
  have f3 : ar M 162 1 19 := L.s rfl (by decide)
  refine x_if_ne 33 dX12_order_27 (by decide) (fun c1 => ?_) (fun c1 => ?_)
  · refine x_iconst (v := 0) dX12_order_33 (by decide) ?_
    refine x_istore_n (lv1 := [(3, .int 0), (0, .ref 130), (1, .int i1)]) dX12_order_34 (by decide) rfl ?_
    refine x_aload_n dX12_order_35 1 rfl ?_
    refine x_getR fdX12_105 rfl dX12_order_36 f1.1 f1.2 f2 ?_
    refine x_iconst (v := 1) dX12_order_39 (by decide) ?_
    refine x_iald dX12_order_40 f3.1 f3.2 (by unfold vp_in; decide) ?_
    refine x_istore (lv1 := [(4, .int (mi M 162 1)), (3, .int 0), (0, .ref 130), (1, .int i1)]) dX12_order_41 (by decide) rfl ?_
    exact EX.sub [2, 3, 1, 0] (k1 c1) rfl
  · refine x_bipush (v := (-2)) dX12_order_30 (by decide) ?_
    exact x_iret rfl dX12_order_32 (Nat.le_refl _) (Nat.le_refl _) (k2 c1)
set_option maxRecDepth 8000 in
theorem qX12_order_43 {g : GG} {d : Nat} {M : MM} {P : Option Value → MM → Prop} {i1 : Int32} {i3 : Int32} {i4 : Int32} {M1 : MM} {la lb pa pb rl : Nat} (L : Lay M la lb pa pb rl)
    (qM1 : M1 = wi M 130 56 (-1))
    (h1 : ¬ ((mi M 132 1) ≤ i4) → vp_in (3 + i4) 19)
    (k1 : (mi M 132 1) ≤ i4 → K0 g YX12_order YX12_orders d 92 [.ref 130, .int 0, .int i3, .int (mi M1 162 0), .int 0] [(0, .ref 130), (1, .int i1)] [] M1 P)
    (k2 : ¬ ((mi M 132 1) ≤ i4) → E0 g YX12_order d 43 [(0, .ref 130), (1, .int i1), (3, .int (i3 ||| ((1 : Int32) <<< ((mi M 162 ((3 + i4) : Int32).toNatClampNeg) &&& 31)))), (4, .int (i4 + 1))] [] M P) :
    E0 g YX12_order d 43 [(0, .ref 130), (1, .int i1), (3, .int i3), (4, .int i4)] [] M P := by
  have f1 : ob M 130 12 := L.s rfl (by decide)
  have f2 : mr M 130 10 = some 132 := L.r 127 rfl
  have f3 : ar M 132 1 4 := L.s rfl (by decide)
  have f4 : mr M 130 43 = some 162 := L.r 157 rfl
  have f5 : ar M 162 1 19 := L.s rfl (by decide)
  subst qM1
  let M1 : MM := wi M 130 56 (-1)
  refine x_iload dX12_order_43 3 rfl ?_
  refine x_aload_n dX12_order_45 0 rfl ?_
  refine x_getR fdX12_13 rfl dX12_order_46 f1.1 f1.2 f2 ?_
  refine x_iconst (v := 1) dX12_order_49 (by decide) ?_
  refine x_iald dX12_order_50 f3.1 f3.2 (by unfold vp_in; decide) ?_
  refine x_ic_ge 74 dX12_order_51 (by decide) (fun c1 => ?_) (fun c1 => ?_)
  · refine x_aload_n dX12_order_74 0 rfl ?_
    refine x_iconst (v := (-1)) dX12_order_75 (by decide) ?_
    refine x_putI fdX12_410 rfl (Or.inl rfl) dX12_order_76 f1.1 f1.2 rfl rfl ?_
    refine x_aload_n dX12_order_79 0 rfl ?_
    refine x_iconst (v := 0) dX12_order_80 (by decide) ?_
    refine x_iload_n dX12_order_81 2 rfl ?_
    refine x_aload_n dX12_order_82 0 rfl ?_
    refine x_getR fdX12_105 rfl dX12_order_83 f1.1 f1.2 f4 ?_
    refine x_iconst (v := 0) dX12_order_86 (by decide) ?_
    refine x_iald dX12_order_87 f5.1 f5.2 (by unfold vp_in; decide) ?_
    refine x_iconst (v := 0) dX12_order_88 (by decide) ?_
    refine EX.sub [0, 1] (K0.v (As := [.int 0, .int i3, .int (mi M1 162 0), .int 0]) (st := []) cvX12_413 dX12_order_89 rfl rfl f1 rfl (Nat.le_of_ble_eq_true rfl) (k1 c1)) rfl
  · refine x_iload_n dX12_order_54 2 rfl ?_
    refine x_iconst (v := 1) dX12_order_55 (by decide) ?_
    refine x_aload_n dX12_order_56 0 rfl ?_
    refine x_getR fdX12_105 rfl dX12_order_57 f1.1 f1.2 f4 ?_
    refine x_iconst (v := 3) dX12_order_60 (by decide) ?_
    refine x_iload dX12_order_61 3 rfl ?_
    refine x_iadd dX12_order_63 ?_
    refine x_iald dX12_order_64 f5.1 f5.2 (h1 c1) ?_
    refine x_ishl dX12_order_65 ?_
    refine x_ior dX12_order_66 ?_
    refine x_istore_n (lv1 := [(3, .int (i3 ||| ((1 : Int32) <<< ((mi M 162 ((3 + i4) : Int32).toNatClampNeg) &&& 31)))), (0, .ref 130), (1, .int i1), (4, .int i4)]) dX12_order_67 (by decide) rfl ?_
    refine x_iinc (v := (i4 + 1)) (lv1 := [(4, .int (i4 + 1)), (3, .int (i3 ||| ((1 : Int32) <<< ((mi M 162 ((3 + i4) : Int32).toNatClampNeg) &&& 31)))), (0, .ref 130), (1, .int i1)]) dX12_order_68 3 rfl rfl (by decide) rfl ?_
    refine x_goto 43 dX12_order_71 (by decide) ?_
    exact EX.sub [2, 3, 1, 0] (k2 c1) rfl
set_option maxRecDepth 8000 in
theorem qX12_order_92 {g : GG} {d : Nat} {M : MM} {P : Option Value → MM → Prop} {i1 : Int32} {la lb pa pb rl : Nat} (L : Lay M la lb pa pb rl)
    (h1 : ¬ i1 = (-1) → vp_in i1 6)
    (k1 : ¬ i1 = (-1) → P (some (.int (mi M 171 (i1 : Int32).toNatClampNeg))) M)
    (k2 : i1 = (-1) → P (some (.int (mi M 130 56))) M) :
    E0 g YX12_order d 92 [(0, .ref 130), (1, .int i1)] [] M P := by
  have f1 : ob M 130 12 := L.s rfl (by decide)
  have f2 : mr M 130 55 = some 171 := L.r 166 rfl
  have f3 : ar M 171 1 6 := L.s rfl (by decide)
  refine x_iload_n dX12_order_92 1 rfl ?_
  refine x_iconst (v := (-1)) dX12_order_93 (by decide) ?_
  refine x_ic_ne 104 dX12_order_94 (by decide) (fun c1 => ?_) (fun c1 => ?_)
  · refine x_aload_n dX12_order_104 0 rfl ?_
    refine x_getR fdX12_132 rfl dX12_order_105 f1.1 f1.2 f2 ?_
    refine x_iload_n dX12_order_108 1 rfl ?_
    refine x_iald dX12_order_109 f3.1 f3.2 (h1 c1) ?_
    exact x_iret rfl dX12_order_110 (Nat.le_refl _) (Nat.le_refl _) (k1 c1)
  · refine x_aload_n dX12_order_97 0 rfl ?_
    refine x_getI fdX12_410 rfl dX12_order_98 f1.1 f1.2 ?_
    refine x_goto 110 dX12_order_101 (by decide) ?_
    exact x_iret rfl dX12_order_110 (Nat.le_refl _) (Nat.le_refl _) (k2 c1)
set_option maxRecDepth 8000 in
theorem qX12_ride_0 {g : GG} {d : Nat} {M : MM} {P : Option Value → MM → Prop}  {M1 : MM} {la lb pa pb rl : Nat} (L : Lay M la lb pa pb rl)
    (qM1 : M1 = wi M 130 0 0)
    (k1 : E0 g YX12_ride d 9 [(0, .ref 130), (1, .int (-1)), (2, .int 0)] [] M1 P) :
    E0 g YX12_ride d 0 [(0, .ref 130)] [] M P := by
  have f1 : ob M 130 12 := L.s rfl (by decide)
  subst qM1
  refine x_aload_n dX12_ride_0 0 rfl ?_
  refine x_iconst (v := 0) dX12_ride_1 (by decide) ?_
  refine x_putI fdX12_138 rfl (Or.inl rfl) dX12_ride_2 f1.1 f1.2 rfl rfl ?_
  refine x_iconst (v := (-1)) dX12_ride_5 (by decide) ?_
  refine x_istore_n (lv1 := [(1, .int (-1)), (0, .ref 130)]) dX12_ride_6 (by decide) rfl ?_
  refine x_iconst (v := 0) dX12_ride_7 (by decide) ?_
  refine x_istore_n (lv1 := [(2, .int 0), (1, .int (-1)), (0, .ref 130)]) dX12_ride_8 (by decide) rfl ?_
  exact EX.sub [2, 1, 0] k1 rfl
set_option maxRecDepth 8000 in
theorem qX12_ride_9 {g : GG} {d : Nat} {M : MM} {P : Option Value → MM → Prop} {i1 : Int32} {i2 : Int32} {la lb pa pb rl : Nat} (L : Lay M la lb pa pb rl)
    (k1 : ((1 : Int32) <<< ((mi M 132 1) &&& 31)) ≤ i2 → P (some (.int i1)) M)
    (k2 : ¬ (((1 : Int32) <<< ((mi M 132 1) &&& 31)) ≤ i2) → i1 < 0 → E0 g YX12_ride d 44 [(0, .ref 130), (1, .int i1), (2, .int i2), (3, .int 0), (4, .int 0)] [] M P)
    (k3 : ¬ (((1 : Int32) <<< ((mi M 132 1) &&& 31)) ≤ i2) → ¬ (i1 < 0) → K0 g YX12_ride YX12_bits d 29 [.int i2] [(0, .ref 130), (1, .int i1), (2, .int i2)] [] M P) :
    E0 g YX12_ride d 9 [(0, .ref 130), (1, .int i1), (2, .int i2)] [] M P := by
  have f1 : ob M 130 12 := L.s rfl (by decide)
  have f2 : mr M 130 10 = some 132 := L.r 127 rfl
  have f3 : ar M 132 1 4 := L.s rfl (by decide)
  refine x_iload_n dX12_ride_9 2 rfl ?_
  refine x_iconst (v := 1) dX12_ride_10 (by decide) ?_
  refine x_aload_n dX12_ride_11 0 rfl ?_
  refine x_getR fdX12_13 rfl dX12_ride_12 f1.1 f1.2 f2 ?_
  refine x_iconst (v := 1) dX12_ride_15 (by decide) ?_
  refine x_iald dX12_ride_16 f3.1 f3.2 (by unfold vp_in; decide) ?_
  refine x_ishl dX12_ride_17 ?_
  refine x_ic_ge 122 dX12_ride_18 (by decide) (fun c1 => ?_) (fun c1 => ?_)
  · refine x_iload_n dX12_ride_122 1 rfl ?_
    exact x_iret rfl dX12_ride_123 (Nat.le_refl _) (Nat.le_refl _) (k1 c1)
  · refine x_iload_n dX12_ride_21 1 rfl ?_
    refine x_if_lt 39 dX12_ride_22 (by decide) (fun c2 => ?_) (fun c2 => ?_)
    · refine x_iconst (v := 0) dX12_ride_39 (by decide) ?_
      refine x_istore_n (lv1 := [(3, .int 0), (0, .ref 130), (1, .int i1), (2, .int i2)]) dX12_ride_40 (by decide) rfl ?_
      refine x_iconst (v := 0) dX12_ride_41 (by decide) ?_
      refine x_istore (lv1 := [(4, .int 0), (3, .int 0), (0, .ref 130), (1, .int i1), (2, .int i2)]) dX12_ride_42 (by decide) rfl ?_
      exact EX.sub [2, 3, 4, 1, 0] (k2 c1 c2) rfl
    · refine x_iload_n dX12_ride_25 2 rfl ?_
      refine EX.sub [0, 1, 2] (K0.s (As := [.int i2]) (st := []) csX12_375 dX12_ride_26 rfl rfl (Nat.le_of_ble_eq_true rfl) (k3 c1 c2)) rfl
set_option maxRecDepth 8000 in
theorem qX12_ride_29 {g : GG} {d : Nat} {M : MM} {P : Option Value → MM → Prop} {i1 : Int32} {i2 : Int32} {s0 : Int32}
    (k1 : K0 g YX12_ride YX12_bits d 33 [.int i1] [(0, .ref 130), (1, .int i1), (2, .int i2)] [.int s0] M P) :
    E0 g YX12_ride d 29 [(0, .ref 130), (1, .int i1), (2, .int i2)] [.int s0] M P := by
  refine x_iload_n dX12_ride_29 1 rfl ?_
  refine EX.sub [0, 1, 2] (K0.s (As := [.int i1]) (st := [.int s0]) csX12_375 dX12_ride_30 rfl rfl (Nat.le_of_ble_eq_true rfl) (k1)) rfl
set_option maxRecDepth 8000 in
theorem qX12_ride_33 {g : GG} {d : Nat} {M : MM} {P : Option Value → MM → Prop} {i1 : Int32} {i2 : Int32} {s0 : Int32} {s1 : Int32}
    (k1 : s0 < s1 → E0 g YX12_ride d 44 [(0, .ref 130), (1, .int i1), (2, .int i2), (3, .int 0), (4, .int 0)] [] M P)
    (k2 : ¬ (s0 < s1) → E0 g YX12_ride d 9 [(0, .ref 130), (1, .int i1), (2, .int (i2 + 1))] [] M P) :
    E0 g YX12_ride d 33 [(0, .ref 130), (1, .int i1), (2, .int i2)] [.int s1, .int s0] M P := by
  refine x_ic_lt 39 dX12_ride_33 (by decide) (fun c1 => ?_) (fun c1 => ?_)
  · refine x_iconst (v := 0) dX12_ride_39 (by decide) ?_
    refine x_istore_n (lv1 := [(3, .int 0), (0, .ref 130), (1, .int i1), (2, .int i2)]) dX12_ride_40 (by decide) rfl ?_
    refine x_iconst (v := 0) dX12_ride_41 (by decide) ?_
    refine x_istore (lv1 := [(4, .int 0), (3, .int 0), (0, .ref 130), (1, .int i1), (2, .int i2)]) dX12_ride_42 (by decide) rfl ?_
    exact EX.sub [2, 3, 4, 1, 0] (k1 c1) rfl
  · refine x_goto 116 dX12_ride_36 (by decide) ?_
    refine x_iinc (v := (i2 + 1)) (lv1 := [(2, .int (i2 + 1)), (0, .ref 130), (1, .int i1)]) dX12_ride_116 2 rfl rfl (by decide) rfl ?_
    refine x_goto 9 dX12_ride_119 (by decide) ?_
    exact EX.sub [1, 2, 0] (k2 c1) rfl
set_option maxRecDepth 8000 in
theorem qX12_ride_44 {g : GG} {d : Nat} {M : MM} {P : Option Value → MM → Prop} {i1 : Int32} {i2 : Int32} {i3 : Int32} {i4 : Int32} {la lb pa pb rl : Nat} (L : Lay M la lb pa pb rl)
    (k1 : (mi M 132 1) ≤ i4 → K0 g YX12_ride YX12_allShots d 111 [.ref 130] [(0, .ref 130), (1, .int i1), (2, .int i2)] [.int i3] M P)
    (k2 : ¬ ((mi M 132 1) ≤ i4) → ¬ ((i2 >>> (i4 &&& 31)) &&& 1) = 1 → E0 g YX12_ride d 44 [(0, .ref 130), (1, .int i1), (2, .int i2), (3, .int (i3 ||| 0)), (4, .int (i4 + 1))] [] M P)
    (k3 : ¬ ((mi M 132 1) ≤ i4) → ((i2 >>> (i4 &&& 31)) &&& 1) = 1 → K0 g YX12_ride YX12_takesOut d 84 [.ref 130, .int i4, .int (mi M 162 0)] [(0, .ref 130), (1, .int i1), (2, .int i2), (4, .int i4)] [.int (mi M 162 0), .int i3] M P) :
    E0 g YX12_ride d 44 [(0, .ref 130), (1, .int i1), (2, .int i2), (3, .int i3), (4, .int i4)] [] M P := by
  have f1 : ob M 130 12 := L.s rfl (by decide)
  have f2 : mr M 130 10 = some 132 := L.r 127 rfl
  have f3 : ar M 132 1 4 := L.s rfl (by decide)
  have f4 : mr M 130 43 = some 162 := L.r 157 rfl
  have f5 : ar M 162 1 19 := L.s rfl (by decide)
  refine x_iload dX12_ride_44 4 rfl ?_
  refine x_aload_n dX12_ride_46 0 rfl ?_
  refine x_getR fdX12_13 rfl dX12_ride_47 f1.1 f1.2 f2 ?_
  refine x_iconst (v := 1) dX12_ride_50 (by decide) ?_
  refine x_iald dX12_ride_51 f3.1 f3.2 (by unfold vp_in; decide) ?_
  refine x_ic_ge 106 dX12_ride_52 (by decide) (fun c1 => ?_) (fun c1 => ?_)
  · refine x_iload_n dX12_ride_106 3 rfl ?_
    refine x_aload_n dX12_ride_107 0 rfl ?_
    refine EX.sub [0, 1, 2] (K0.v (As := []) (st := [.int i3]) cvX12_314 dX12_ride_108 rfl rfl f1 rfl (Nat.le_of_ble_eq_true rfl) (k1 c1)) rfl
  · refine x_iload_n dX12_ride_55 3 rfl ?_
    refine x_iload_n dX12_ride_56 2 rfl ?_
    refine x_iload dX12_ride_57 4 rfl ?_
    refine x_ishr dX12_ride_59 ?_
    refine x_iconst (v := 1) dX12_ride_60 (by decide) ?_
    refine x_iand dX12_ride_61 ?_
    refine x_iconst (v := 1) dX12_ride_62 (by decide) ?_
    refine x_ic_ne 97 dX12_ride_63 (by decide) (fun c2 => ?_) (fun c2 => ?_)
    · refine x_iconst (v := 0) dX12_ride_97 (by decide) ?_
      refine x_ior dX12_ride_98 ?_
      refine x_istore_n (lv1 := [(3, .int (i3 ||| 0)), (0, .ref 130), (1, .int i1), (2, .int i2), (4, .int i4)]) dX12_ride_99 (by decide) rfl ?_
      refine x_iinc (v := (i4 + 1)) (lv1 := [(4, .int (i4 + 1)), (3, .int (i3 ||| 0)), (0, .ref 130), (1, .int i1), (2, .int i2)]) dX12_ride_100 4 rfl rfl (by decide) rfl ?_
      refine x_goto 44 dX12_ride_103 (by decide) ?_
      exact EX.sub [2, 3, 4, 1, 0] (k2 c1 c2) rfl
    · refine x_aload_n dX12_ride_66 0 rfl ?_
      refine x_getR fdX12_105 rfl dX12_ride_67 f1.1 f1.2 f4 ?_
      refine x_iconst (v := 0) dX12_ride_70 (by decide) ?_
      refine x_iald dX12_ride_71 f5.1 f5.2 (by unfold vp_in; decide) ?_
      refine x_aload_n dX12_ride_72 0 rfl ?_
      refine x_iload dX12_ride_73 4 rfl ?_
      refine x_aload_n dX12_ride_75 0 rfl ?_
      refine x_getR fdX12_105 rfl dX12_ride_76 f1.1 f1.2 f4 ?_
      refine x_iconst (v := 0) dX12_ride_79 (by decide) ?_
      refine x_iald dX12_ride_80 f5.1 f5.2 (by unfold vp_in; decide) ?_
      refine EX.sub [0, 1, 2, 4] (K0.v (As := [.int i4, .int (mi M 162 0)]) (st := [.int (mi M 162 0), .int i3]) cvX12_340 dX12_ride_81 rfl rfl f1 rfl (Nat.le_of_ble_eq_true rfl) (k3 c1 c2)) rfl
set_option maxRecDepth 8000 in
theorem qX12_ride_84 {g : GG} {d : Nat} {M : MM} {P : Option Value → MM → Prop} {i1 : Int32} {i2 : Int32} {i4 : Int32} {s0 : Int32} {s1 : Int32} {s2 : Int32} {la lb pa pb rl : Nat} (L : Lay M la lb pa pb rl)
    (k1 : K0 g YX12_ride YX12_drawerOf d 93 [.ref 130, .int i4] [(0, .ref 130), (1, .int i1), (2, .int i2), (4, .int i4)] [.int (s1 &&& (s2 ^^^ (-1))), .int s0] M P) :
    E0 g YX12_ride d 84 [(0, .ref 130), (1, .int i1), (2, .int i2), (4, .int i4)] [.int s2, .int s1, .int s0] M P := by
  have f1 : ob M 130 12 := L.s rfl (by decide)
  refine x_iconst (v := (-1)) dX12_ride_84 (by decide) ?_
  refine x_ixor dX12_ride_85 ?_
  refine x_iand dX12_ride_86 ?_
  refine x_aload_n dX12_ride_87 0 rfl ?_
  refine x_iload dX12_ride_88 3 rfl ?_
  refine EX.sub [0, 1, 2, 3] (K0.v (As := [.int i4]) (st := [.int (s1 &&& (s2 ^^^ (-1))), .int s0]) cvX12_353 dX12_ride_90 rfl rfl f1 rfl (Nat.le_of_ble_eq_true rfl) (k1)) rfl
set_option maxRecDepth 8000 in
theorem qX12_ride_93 {g : GG} {d : Nat} {M : MM} {P : Option Value → MM → Prop} {i1 : Int32} {i2 : Int32} {i4 : Int32} {s0 : Int32} {s1 : Int32} {s2 : Int32}
    (k1 : E0 g YX12_ride d 44 [(0, .ref 130), (1, .int i1), (2, .int i2), (3, .int (s0 ||| (s1 ||| s2))), (4, .int (i4 + 1))] [] M P) :
    E0 g YX12_ride d 93 [(0, .ref 130), (1, .int i1), (2, .int i2), (4, .int i4)] [.int s2, .int s1, .int s0] M P := by
  refine x_ior dX12_ride_93 ?_
  refine x_goto 98 dX12_ride_94 (by decide) ?_
  refine x_ior dX12_ride_98 ?_
  refine x_istore_n (lv1 := [(3, .int (s0 ||| (s1 ||| s2))), (0, .ref 130), (1, .int i1), (2, .int i2), (4, .int i4)]) dX12_ride_99 (by decide) rfl ?_
  refine x_iinc (v := (i4 + 1)) (lv1 := [(4, .int (i4 + 1)), (3, .int (s0 ||| (s1 ||| s2))), (0, .ref 130), (1, .int i1), (2, .int i2)]) dX12_ride_100 4 rfl rfl (by decide) rfl ?_
  refine x_goto 44 dX12_ride_103 (by decide) ?_
  exact EX.sub [2, 3, 4, 1, 0] k1 rfl
set_option maxRecDepth 8000 in
theorem qX12_ride_111 {g : GG} {d : Nat} {M : MM} {P : Option Value → MM → Prop} {i1 : Int32} {i2 : Int32} {s0 : Int32} {s1 : Int32}
    (k1 : ¬ s0 = s1 → E0 g YX12_ride d 9 [(0, .ref 130), (1, .int i1), (2, .int (i2 + 1))] [] M P)
    (k2 : s0 = s1 → E0 g YX12_ride d 9 [(0, .ref 130), (1, .int i2), (2, .int (i2 + 1))] [] M P) :
    E0 g YX12_ride d 111 [(0, .ref 130), (1, .int i1), (2, .int i2)] [.int s1, .int s0] M P := by
  refine x_ic_ne 116 dX12_ride_111 (by decide) (fun c1 => ?_) (fun c1 => ?_)
  · refine x_iinc (v := (i2 + 1)) (lv1 := [(2, .int (i2 + 1)), (0, .ref 130), (1, .int i1)]) dX12_ride_116 2 rfl rfl (by decide) rfl ?_
    refine x_goto 9 dX12_ride_119 (by decide) ?_
    exact EX.sub [1, 2, 0] (k1 c1) rfl
  · refine x_iload_n dX12_ride_114 2 rfl ?_
    refine x_istore_n (lv1 := [(1, .int i2), (0, .ref 130), (2, .int i2)]) dX12_ride_115 (by decide) rfl ?_
    refine x_iinc (v := (i2 + 1)) (lv1 := [(2, .int (i2 + 1)), (1, .int i2), (0, .ref 130)]) dX12_ride_116 2 rfl rfl (by decide) rfl ?_
    refine x_goto 9 dX12_ride_119 (by decide) ?_
    exact EX.sub [2, 1, 0] (k2 c1) rfl
set_option maxRecDepth 8000 in
theorem qX12_otherFilm_0 {g : GG} {d : Nat} {M : MM} {P : Option Value → MM → Prop}  {la lb pa pb rl : Nat} (L : Lay M la lb pa pb rl)
    (k1 : K0 g YX12_otherFilm YX12_inDrawers d 4 [.ref 130] [(0, .ref 130)] [] M P) :
    E0 g YX12_otherFilm d 0 [(0, .ref 130)] [] M P := by
  have f1 : ob M 130 12 := L.s rfl (by decide)
  refine x_aload_n dX12_otherFilm_0 0 rfl ?_
  refine EX.sub [0] (K0.v (As := []) (st := []) cvX12_417 dX12_otherFilm_1 rfl rfl f1 rfl (Nat.le_of_ble_eq_true rfl) (k1)) rfl
set_option maxRecDepth 8000 in
theorem qX12_otherFilm_4 {g : GG} {d : Nat} {M : MM} {P : Option Value → MM → Prop} {s0 : Int32}
    (k1 : E0 g YX12_otherFilm d 9 [(0, .ref 130), (1, .int s0), (2, .int 0), (3, .int 0)] [] M P) :
    E0 g YX12_otherFilm d 4 [(0, .ref 130)] [.int s0] M P := by
  refine x_istore_n (lv1 := [(1, .int s0), (0, .ref 130)]) dX12_otherFilm_4 (by decide) rfl ?_
  refine x_iconst (v := 0) dX12_otherFilm_5 (by decide) ?_
  refine x_istore_n (lv1 := [(2, .int 0), (1, .int s0), (0, .ref 130)]) dX12_otherFilm_6 (by decide) rfl ?_
  refine x_iconst (v := 0) dX12_otherFilm_7 (by decide) ?_
  refine x_istore_n (lv1 := [(3, .int 0), (2, .int 0), (1, .int s0), (0, .ref 130)]) dX12_otherFilm_8 (by decide) rfl ?_
  exact EX.sub [3, 2, 1, 0] k1 rfl
set_option maxRecDepth 8000 in
theorem qX12_otherFilm_9 {g : GG} {d : Nat} {M : MM} {P : Option Value → MM → Prop} {i1 : Int32} {i2 : Int32} {i3 : Int32} {la lb pa pb rl : Nat} (L : Lay M la lb pa pb rl)
    (k1 : i1 < i3 → P (some (.int i2)) M)
    (k2 : ¬ (i1 < i3) → ¬ (i3 &&& (i1 ^^^ (-1))) = 0 → E0 g YX12_otherFilm d 9 [(0, .ref 130), (1, .int i1), (2, .int i2), (3, .int (i3 + 1))] [] M P)
    (k3 : ¬ (i1 < i3) → (i3 &&& (i1 ^^^ (-1))) = 0 → K0 g YX12_otherFilm YX12_makesSense d 27 [.ref 130, .int i3] [(0, .ref 130), (1, .int i1), (2, .int i2), (3, .int i3)] [] M P) :
    E0 g YX12_otherFilm d 9 [(0, .ref 130), (1, .int i1), (2, .int i2), (3, .int i3)] [] M P := by
  have f1 : ob M 130 12 := L.s rfl (by decide)
  refine x_iload_n dX12_otherFilm_9 3 rfl ?_
  refine x_iload_n dX12_otherFilm_10 1 rfl ?_
  refine x_ic_gt 80 dX12_otherFilm_11 (by decide) (fun c1 => ?_) (fun c1 => ?_)
  · refine x_iload_n dX12_otherFilm_80 2 rfl ?_
    exact x_iret rfl dX12_otherFilm_81 (Nat.le_refl _) (Nat.le_refl _) (k1 c1)
  · refine x_iload_n dX12_otherFilm_14 3 rfl ?_
    refine x_iload_n dX12_otherFilm_15 1 rfl ?_
    refine x_iconst (v := (-1)) dX12_otherFilm_16 (by decide) ?_
    refine x_ixor dX12_otherFilm_17 ?_
    refine x_iand dX12_otherFilm_18 ?_
    refine x_if_ne 74 dX12_otherFilm_19 (by decide) (fun c2 => ?_) (fun c2 => ?_)
    · refine x_iinc (v := (i3 + 1)) (lv1 := [(3, .int (i3 + 1)), (0, .ref 130), (1, .int i1), (2, .int i2)]) dX12_otherFilm_74 3 rfl rfl (by decide) rfl ?_
      refine x_goto 9 dX12_otherFilm_77 (by decide) ?_
      exact EX.sub [1, 2, 3, 0] (k2 c1 c2) rfl
    · refine x_aload_n dX12_otherFilm_22 0 rfl ?_
      refine x_iload_n dX12_otherFilm_23 3 rfl ?_
      refine EX.sub [0, 1, 2, 3] (K0.v (As := [.int i3]) (st := []) cvX12_387 dX12_otherFilm_24 rfl rfl f1 rfl (Nat.le_of_ble_eq_true rfl) (k3 c1 c2)) rfl
set_option maxRecDepth 8000 in
theorem qX12_otherFilm_27 {g : GG} {d : Nat} {M : MM} {P : Option Value → MM → Prop} {i1 : Int32} {i2 : Int32} {i3 : Int32} {s0 : Int32} {la lb pa pb rl : Nat} (L : Lay M la lb pa pb rl)
    (k1 : ¬ s0 = 0 → K0 g YX12_otherFilm YX12_minutesOf d 38 [.ref 130, .int i3] [(0, .ref 130), (1, .int i1), (2, .int i2), (3, .int i3)] [] M P)
    (k2 : s0 = 0 → E0 g YX12_otherFilm d 9 [(0, .ref 130), (1, .int i1), (2, .int i2), (3, .int (i3 + 1))] [] M P) :
    E0 g YX12_otherFilm d 27 [(0, .ref 130), (1, .int i1), (2, .int i2), (3, .int i3)] [.int s0] M P := by
  have f1 : ob M 130 12 := L.s rfl (by decide)
  refine x_if_ne 33 dX12_otherFilm_27 (by decide) (fun c1 => ?_) (fun c1 => ?_)
  · refine x_aload_n dX12_otherFilm_33 0 rfl ?_
    refine x_iload_n dX12_otherFilm_34 3 rfl ?_
    refine EX.sub [0, 1, 2, 3] (K0.v (As := [.int i3]) (st := []) cvX12_369 dX12_otherFilm_35 rfl rfl f1 rfl (Nat.le_of_ble_eq_true rfl) (k1 c1)) rfl
  · refine x_goto 74 dX12_otherFilm_30 (by decide) ?_
    refine x_iinc (v := (i3 + 1)) (lv1 := [(3, .int (i3 + 1)), (0, .ref 130), (1, .int i1), (2, .int i2)]) dX12_otherFilm_74 3 rfl rfl (by decide) rfl ?_
    refine x_goto 9 dX12_otherFilm_77 (by decide) ?_
    exact EX.sub [1, 2, 3, 0] (k2 c1) rfl
set_option maxRecDepth 8000 in
theorem qX12_otherFilm_38 {g : GG} {d : Nat} {M : MM} {P : Option Value → MM → Prop} {i1 : Int32} {i2 : Int32} {i3 : Int32} {s0 : Int32} {la lb pa pb rl : Nat} (L : Lay M la lb pa pb rl)
    (k1 : K0 g YX12_otherFilm YX12_minutesOf d 45 [.ref 130, .int i2] [(0, .ref 130), (1, .int i1), (2, .int i2), (3, .int i3), (4, .int s0)] [] M P) :
    E0 g YX12_otherFilm d 38 [(0, .ref 130), (1, .int i1), (2, .int i2), (3, .int i3)] [.int s0] M P := by
  have f1 : ob M 130 12 := L.s rfl (by decide)
  refine x_istore (lv1 := [(4, .int s0), (0, .ref 130), (1, .int i1), (2, .int i2), (3, .int i3)]) dX12_otherFilm_38 (by decide) rfl ?_
  refine x_aload_n dX12_otherFilm_40 1 rfl ?_
  refine x_iload_n dX12_otherFilm_41 3 rfl ?_
  refine EX.sub [1, 2, 3, 4, 0] (K0.v (As := [.int i2]) (st := []) cvX12_369 dX12_otherFilm_42 rfl rfl f1 rfl (Nat.le_of_ble_eq_true rfl) (k1)) rfl
set_option maxRecDepth 8000 in
theorem qX12_otherFilm_45 {g : GG} {d : Nat} {M : MM} {P : Option Value → MM → Prop} {i1 : Int32} {i2 : Int32} {i3 : Int32} {i4 : Int32} {s0 : Int32}
    (k1 : s0 < i4 → E0 g YX12_otherFilm d 9 [(0, .ref 130), (1, .int i1), (2, .int i3), (3, .int (i3 + 1))] [] M P)
    (k2 : ¬ (s0 < i4) → ¬ i4 = s0 → E0 g YX12_otherFilm d 9 [(0, .ref 130), (1, .int i1), (2, .int i2), (3, .int (i3 + 1))] [] M P)
    (k3 : ¬ (s0 < i4) → i4 = s0 → K0 g YX12_otherFilm YX12_bits d 65 [.int i3] [(0, .ref 130), (1, .int i1), (2, .int i2), (3, .int i3)] [] M P) :
    E0 g YX12_otherFilm d 45 [(0, .ref 130), (1, .int i1), (2, .int i2), (3, .int i3), (4, .int i4)] [.int s0] M P := by
  refine x_istore (lv1 := [(5, .int s0), (0, .ref 130), (1, .int i1), (2, .int i2), (3, .int i3), (4, .int i4)]) dX12_otherFilm_45 (by decide) rfl ?_
  refine x_iload dX12_otherFilm_47 5 rfl ?_
  refine x_iload dX12_otherFilm_49 0 rfl ?_
  refine x_ic_gt 72 dX12_otherFilm_51 (by decide) (fun c1 => ?_) (fun c1 => ?_)
  · refine x_iload_n dX12_otherFilm_72 4 rfl ?_
    refine x_istore_n (lv1 := [(2, .int i3), (5, .int s0), (0, .ref 130), (1, .int i1), (3, .int i3), (4, .int i4)]) dX12_otherFilm_73 (by decide) rfl ?_
    refine x_iinc (v := (i3 + 1)) (lv1 := [(3, .int (i3 + 1)), (2, .int i3), (5, .int s0), (0, .ref 130), (1, .int i1), (4, .int i4)]) dX12_otherFilm_74 4 rfl rfl (by decide) rfl ?_
    refine x_goto 9 dX12_otherFilm_77 (by decide) ?_
    exact EX.sub [3, 4, 1, 0] (k1 c1) rfl
  · refine x_iload dX12_otherFilm_54 5 rfl ?_
    refine x_iload dX12_otherFilm_56 0 rfl ?_
    refine x_ic_ne 74 dX12_otherFilm_58 (by decide) (fun c2 => ?_) (fun c2 => ?_)
    · refine x_iinc (v := (i3 + 1)) (lv1 := [(3, .int (i3 + 1)), (5, .int s0), (0, .ref 130), (1, .int i1), (2, .int i2), (4, .int i4)]) dX12_otherFilm_74 4 rfl rfl (by decide) rfl ?_
      refine x_goto 9 dX12_otherFilm_77 (by decide) ?_
      exact EX.sub [2, 3, 4, 0] (k2 c1 c2) rfl
    · refine x_iload_n dX12_otherFilm_61 4 rfl ?_
      refine EX.sub [1, 2, 3, 4] (K0.s (As := [.int i3]) (st := []) csX12_375 dX12_otherFilm_62 rfl rfl (Nat.le_of_ble_eq_true rfl) (k3 c1 c2)) rfl
set_option maxRecDepth 8000 in
theorem qX12_otherFilm_65 {g : GG} {d : Nat} {M : MM} {P : Option Value → MM → Prop} {i1 : Int32} {i2 : Int32} {i3 : Int32} {s0 : Int32}
    (k1 : K0 g YX12_otherFilm YX12_bits d 69 [.int i2] [(0, .ref 130), (1, .int i1), (2, .int i2), (3, .int i3)] [.int s0] M P) :
    E0 g YX12_otherFilm d 65 [(0, .ref 130), (1, .int i1), (2, .int i2), (3, .int i3)] [.int s0] M P := by
  refine x_iload_n dX12_otherFilm_65 2 rfl ?_
  refine EX.sub [0, 1, 2, 3] (K0.s (As := [.int i2]) (st := [.int s0]) csX12_375 dX12_otherFilm_66 rfl rfl (Nat.le_of_ble_eq_true rfl) (k1)) rfl
set_option maxRecDepth 8000 in
theorem qX12_otherFilm_69 {g : GG} {d : Nat} {M : MM} {P : Option Value → MM → Prop} {i1 : Int32} {i2 : Int32} {i3 : Int32} {s0 : Int32} {s1 : Int32}
    (k1 : s1 ≤ s0 → E0 g YX12_otherFilm d 9 [(0, .ref 130), (1, .int i1), (2, .int i2), (3, .int (i3 + 1))] [] M P)
    (k2 : ¬ (s1 ≤ s0) → E0 g YX12_otherFilm d 9 [(0, .ref 130), (1, .int i1), (2, .int i3), (3, .int (i3 + 1))] [] M P) :
    E0 g YX12_otherFilm d 69 [(0, .ref 130), (1, .int i1), (2, .int i2), (3, .int i3)] [.int s1, .int s0] M P := by
  refine x_ic_ge 74 dX12_otherFilm_69 (by decide) (fun c1 => ?_) (fun c1 => ?_)
  · refine x_iinc (v := (i3 + 1)) (lv1 := [(3, .int (i3 + 1)), (0, .ref 130), (1, .int i1), (2, .int i2)]) dX12_otherFilm_74 3 rfl rfl (by decide) rfl ?_
    refine x_goto 9 dX12_otherFilm_77 (by decide) ?_
    exact EX.sub [1, 2, 3, 0] (k1 c1) rfl
  · refine x_iload_n dX12_otherFilm_72 3 rfl ?_
    refine x_istore_n (lv1 := [(2, .int i3), (0, .ref 130), (1, .int i1), (3, .int i3)]) dX12_otherFilm_73 (by decide) rfl ?_
    refine x_iinc (v := (i3 + 1)) (lv1 := [(3, .int (i3 + 1)), (2, .int i3), (0, .ref 130), (1, .int i1)]) dX12_otherFilm_74 3 rfl rfl (by decide) rfl ?_
    refine x_goto 9 dX12_otherFilm_77 (by decide) ?_
    exact EX.sub [2, 3, 1, 0] (k2 c1) rfl
set_option maxRecDepth 8000 in
theorem qX12_other_0 {g : GG} {d : Nat} {M : MM} {P : Option Value → MM → Prop} {i1 : Int32} {M1 : MM} {la lb pa pb rl : Nat} (L : Lay M la lb pa pb rl)
    (qM1 : M1 = wi M 130 0 0)
    (k1 : K0 g YX12_other YX12_within d 11 [.int i1, .int 0, .int 1] [(0, .ref 130), (1, .int i1)] [] M1 P) :
    E0 g YX12_other d 0 [(0, .ref 130), (1, .int i1)] [] M P := by
  have f1 : ob M 130 12 := L.s rfl (by decide)
  subst qM1
  refine x_aload_n dX12_other_0 0 rfl ?_
  refine x_iconst (v := 0) dX12_other_1 (by decide) ?_
  refine x_putI fdX12_138 rfl (Or.inl rfl) dX12_other_2 f1.1 f1.2 rfl rfl ?_
  refine x_iload_n dX12_other_5 1 rfl ?_
  refine x_iconst (v := 0) dX12_other_6 (by decide) ?_
  refine x_iconst (v := 1) dX12_other_7 (by decide) ?_
  refine EX.sub [0, 1] (K0.s (As := [.int i1, .int 0, .int 1]) (st := []) csX12_253 dX12_other_8 rfl rfl (Nat.le_of_ble_eq_true rfl) (k1)) rfl
set_option maxRecDepth 8000 in
theorem qX12_other_11 {g : GG} {d : Nat} {M : MM} {P : Option Value → MM → Prop} {i1 : Int32} {s0 : Int32} {la lb pa pb rl : Nat} (L : Lay M la lb pa pb rl)
    (k1 : ¬ s0 = 0 → K0 g YX12_other YX12_otherFilm d 20 [.ref 130] [(0, .ref 130), (1, .int i1)] [] M P)
    (k2 : s0 = 0 → P (some (.int (-1))) M) :
    E0 g YX12_other d 11 [(0, .ref 130), (1, .int i1)] [.int s0] M P := by
  have f1 : ob M 130 12 := L.s rfl (by decide)
  refine x_if_ne 16 dX12_other_11 (by decide) (fun c1 => ?_) (fun c1 => ?_)
  · refine x_aload_n dX12_other_16 0 rfl ?_
    refine EX.sub [0, 1] (K0.v (As := []) (st := []) cvX12_420 dX12_other_17 rfl rfl f1 rfl (Nat.le_of_ble_eq_true rfl) (k1 c1)) rfl
  · refine x_iconst (v := (-1)) dX12_other_14 (by decide) ?_
    exact x_iret rfl dX12_other_15 (Nat.le_refl _) (Nat.le_refl _) (k2 c1)
set_option maxRecDepth 8000 in
theorem qX12_other_20 {g : GG} {d : Nat} {M : MM} {P : Option Value → MM → Prop} {i1 : Int32} {s0 : Int32} {la lb pa pb rl : Nat} (L : Lay M la lb pa pb rl)
    (k1 : ¬ i1 = 0 → P (some (.int s0)) M)
    (k2 : i1 = 0 → K0 g YX12_other YX12_minutesOf d 30 [.ref 130, .int s0] [] [] M P) :
    E0 g YX12_other d 20 [(0, .ref 130), (1, .int i1)] [.int s0] M P := by
  have f1 : ob M 130 12 := L.s rfl (by decide)
  refine x_istore_n (lv1 := [(2, .int s0), (0, .ref 130), (1, .int i1)]) dX12_other_20 (by decide) rfl ?_
  refine x_iload_n dX12_other_21 2 rfl ?_
  refine x_if_ne 33 dX12_other_22 (by decide) (fun c1 => ?_) (fun c1 => ?_)
  · refine x_iload_n dX12_other_33 0 rfl ?_
    exact x_iret rfl dX12_other_34 (Nat.le_refl _) (Nat.le_refl _) (k1 c1)
  · refine x_aload_n dX12_other_25 1 rfl ?_
    refine x_iload_n dX12_other_26 0 rfl ?_
    refine EX.sub [] (K0.v (As := [.int s0]) (st := []) cvX12_369 dX12_other_27 rfl rfl f1 rfl (Nat.le_of_ble_eq_true rfl) (k2 c1)) rfl
set_option maxRecDepth 8000 in
theorem qX12_other_30 {g : GG} {d : Nat} {M : MM} {P : Option Value → MM → Prop} {s0 : Int32}
    (k1 : P (some (.int s0)) M) :
    E0 g YX12_other d 30 [] [.int s0] M P := by
  refine x_goto 34 dX12_other_30 (by decide) ?_
  exact x_iret rfl dX12_other_34 (Nat.le_refl _) (Nat.le_refl _) (k1)
set_option maxRecDepth 8000 in
theorem qX12_mends_0 {g : GG} {d : Nat} {M : MM} {P : Option Value → MM → Prop}  {M1 : MM} {la lb pa pb rl : Nat} (L : Lay M la lb pa pb rl)
    (qM1 : M1 = wi M 130 0 0)
    (k1 : K0 g YX12_mends YX12_inDrawers d 9 [.ref 130] [(0, .ref 130)] [] M1 P) :
    E0 g YX12_mends d 0 [(0, .ref 130)] [] M P := by
  have f1 : ob M 130 12 := L.s rfl (by decide)
  subst qM1
  refine x_aload_n dX12_mends_0 0 rfl ?_
  refine x_iconst (v := 0) dX12_mends_1 (by decide) ?_
  refine x_putI fdX12_138 rfl (Or.inl rfl) dX12_mends_2 f1.1 f1.2 rfl rfl ?_
  refine x_aload_n dX12_mends_5 0 rfl ?_
  refine EX.sub [0] (K0.v (As := []) (st := []) cvX12_417 dX12_mends_6 rfl rfl f1 rfl (Nat.le_of_ble_eq_true rfl) (k1)) rfl
set_option maxRecDepth 8000 in
theorem qX12_mends_9 {g : GG} {d : Nat} {M : MM} {P : Option Value → MM → Prop} {s0 : Int32}
    (k1 : E0 g YX12_mends d 14 [(0, .ref 130), (1, .int s0), (2, .int (-1)), (3, .int 0)] [] M P) :
    E0 g YX12_mends d 9 [(0, .ref 130)] [.int s0] M P := by
  refine x_istore_n (lv1 := [(1, .int s0), (0, .ref 130)]) dX12_mends_9 (by decide) rfl ?_
  refine x_iconst (v := (-1)) dX12_mends_10 (by decide) ?_
  refine x_istore_n (lv1 := [(2, .int (-1)), (1, .int s0), (0, .ref 130)]) dX12_mends_11 (by decide) rfl ?_
  refine x_iconst (v := 0) dX12_mends_12 (by decide) ?_
  refine x_istore_n (lv1 := [(3, .int 0), (2, .int (-1)), (1, .int s0), (0, .ref 130)]) dX12_mends_13 (by decide) rfl ?_
  exact EX.sub [3, 2, 1, 0] k1 rfl
set_option maxRecDepth 8000 in
theorem qX12_mends_14 {g : GG} {d : Nat} {M : MM} {P : Option Value → MM → Prop} {i1 : Int32} {i2 : Int32} {i3 : Int32} {la lb pa pb rl : Nat} (L : Lay M la lb pa pb rl)
    (k1 : i1 < i3 → P (some (.int i2)) M)
    (k2 : ¬ (i1 < i3) → ¬ (i3 &&& (i1 ^^^ (-1))) = 0 → E0 g YX12_mends d 14 [(0, .ref 130), (1, .int i1), (2, .int i2), (3, .int (i3 + 1))] [] M P)
    (k3 : ¬ (i1 < i3) → (i3 &&& (i1 ^^^ (-1))) = 0 → i2 < 0 → K0 g YX12_mends YX12_makesSense d 54 [.ref 130, .int ((mi M 162 0) ||| i3)] [(0, .ref 130), (1, .int i1), (2, .int i2), (3, .int i3)] [] M P)
    (k4 : ¬ (i1 < i3) → (i3 &&& (i1 ^^^ (-1))) = 0 → ¬ (i2 < 0) → K0 g YX12_mends YX12_bits d 35 [.int i3] [(0, .ref 130), (1, .int i1), (2, .int i2), (3, .int i3)] [] M P) :
    E0 g YX12_mends d 14 [(0, .ref 130), (1, .int i1), (2, .int i2), (3, .int i3)] [] M P := by
  have f1 : ob M 130 12 := L.s rfl (by decide)
  have f2 : mr M 130 43 = some 162 := L.r 157 rfl
  have f3 : ar M 162 1 19 := L.s rfl (by decide)
  refine x_iload_n dX12_mends_14 3 rfl ?_
  refine x_iload_n dX12_mends_15 1 rfl ?_
  refine x_ic_gt 65 dX12_mends_16 (by decide) (fun c1 => ?_) (fun c1 => ?_)
  · refine x_iload_n dX12_mends_65 2 rfl ?_
    exact x_iret rfl dX12_mends_66 (Nat.le_refl _) (Nat.le_refl _) (k1 c1)
  · refine x_iload_n dX12_mends_19 3 rfl ?_
    refine x_iload_n dX12_mends_20 1 rfl ?_
    refine x_iconst (v := (-1)) dX12_mends_21 (by decide) ?_
    refine x_ixor dX12_mends_22 ?_
    refine x_iand dX12_mends_23 ?_
    refine x_if_ne 59 dX12_mends_24 (by decide) (fun c2 => ?_) (fun c2 => ?_)
    · refine x_iinc (v := (i3 + 1)) (lv1 := [(3, .int (i3 + 1)), (0, .ref 130), (1, .int i1), (2, .int i2)]) dX12_mends_59 3 rfl rfl (by decide) rfl ?_
      refine x_goto 14 dX12_mends_62 (by decide) ?_
      exact EX.sub [1, 2, 3, 0] (k2 c1 c2) rfl
    · refine x_iload_n dX12_mends_27 2 rfl ?_
      refine x_if_lt 42 dX12_mends_28 (by decide) (fun c3 => ?_) (fun c3 => ?_)
      · refine x_aload_n dX12_mends_42 0 rfl ?_
        refine x_aload_n dX12_mends_43 0 rfl ?_
        refine x_getR fdX12_105 rfl dX12_mends_44 f1.1 f1.2 f2 ?_
        refine x_iconst (v := 0) dX12_mends_47 (by decide) ?_
        refine x_iald dX12_mends_48 f3.1 f3.2 (by unfold vp_in; decide) ?_
        refine x_iload_n dX12_mends_49 3 rfl ?_
        refine x_ior dX12_mends_50 ?_
        refine EX.sub [0, 1, 2, 3] (K0.v (As := [.int ((mi M 162 0) ||| i3)]) (st := []) cvX12_387 dX12_mends_51 rfl rfl f1 rfl (Nat.le_of_ble_eq_true rfl) (k3 c1 c2 c3)) rfl
      · refine x_iload_n dX12_mends_31 3 rfl ?_
        refine EX.sub [0, 1, 2, 3] (K0.s (As := [.int i3]) (st := []) csX12_375 dX12_mends_32 rfl rfl (Nat.le_of_ble_eq_true rfl) (k4 c1 c2 c3)) rfl
set_option maxRecDepth 8000 in
theorem qX12_mends_35 {g : GG} {d : Nat} {M : MM} {P : Option Value → MM → Prop} {i1 : Int32} {i2 : Int32} {i3 : Int32} {s0 : Int32}
    (k1 : K0 g YX12_mends YX12_bits d 39 [.int i2] [(0, .ref 130), (1, .int i1), (2, .int i2), (3, .int i3)] [.int s0] M P) :
    E0 g YX12_mends d 35 [(0, .ref 130), (1, .int i1), (2, .int i2), (3, .int i3)] [.int s0] M P := by
  refine x_iload_n dX12_mends_35 2 rfl ?_
  refine EX.sub [0, 1, 2, 3] (K0.s (As := [.int i2]) (st := [.int s0]) csX12_375 dX12_mends_36 rfl rfl (Nat.le_of_ble_eq_true rfl) (k1)) rfl
set_option maxRecDepth 8000 in
theorem qX12_mends_39 {g : GG} {d : Nat} {M : MM} {P : Option Value → MM → Prop} {i1 : Int32} {i2 : Int32} {i3 : Int32} {s0 : Int32} {s1 : Int32} {la lb pa pb rl : Nat} (L : Lay M la lb pa pb rl)
    (k1 : s1 ≤ s0 → E0 g YX12_mends d 14 [(0, .ref 130), (1, .int i1), (2, .int i2), (3, .int (i3 + 1))] [] M P)
    (k2 : ¬ (s1 ≤ s0) → K0 g YX12_mends YX12_makesSense d 54 [.ref 130, .int ((mi M 162 0) ||| i3)] [(0, .ref 130), (1, .int i1), (2, .int i2), (3, .int i3)] [] M P) :
    E0 g YX12_mends d 39 [(0, .ref 130), (1, .int i1), (2, .int i2), (3, .int i3)] [.int s1, .int s0] M P := by
  have f1 : ob M 130 12 := L.s rfl (by decide)
  have f2 : mr M 130 43 = some 162 := L.r 157 rfl
  have f3 : ar M 162 1 19 := L.s rfl (by decide)
  refine x_ic_ge 59 dX12_mends_39 (by decide) (fun c1 => ?_) (fun c1 => ?_)
  · refine x_iinc (v := (i3 + 1)) (lv1 := [(3, .int (i3 + 1)), (0, .ref 130), (1, .int i1), (2, .int i2)]) dX12_mends_59 3 rfl rfl (by decide) rfl ?_
    refine x_goto 14 dX12_mends_62 (by decide) ?_
    exact EX.sub [1, 2, 3, 0] (k1 c1) rfl
  · refine x_aload_n dX12_mends_42 0 rfl ?_
    refine x_aload_n dX12_mends_43 0 rfl ?_
    refine x_getR fdX12_105 rfl dX12_mends_44 f1.1 f1.2 f2 ?_
    refine x_iconst (v := 0) dX12_mends_47 (by decide) ?_
    refine x_iald dX12_mends_48 f3.1 f3.2 (by unfold vp_in; decide) ?_
    refine x_iload_n dX12_mends_49 3 rfl ?_
    refine x_ior dX12_mends_50 ?_
    refine EX.sub [0, 1, 2, 3] (K0.v (As := [.int ((mi M 162 0) ||| i3)]) (st := []) cvX12_387 dX12_mends_51 rfl rfl f1 rfl (Nat.le_of_ble_eq_true rfl) (k2 c1)) rfl
set_option maxRecDepth 8000 in
theorem qX12_mends_54 {g : GG} {d : Nat} {M : MM} {P : Option Value → MM → Prop} {i1 : Int32} {i2 : Int32} {i3 : Int32} {s0 : Int32}
    (k1 : s0 = 0 → E0 g YX12_mends d 14 [(0, .ref 130), (1, .int i1), (2, .int i2), (3, .int (i3 + 1))] [] M P)
    (k2 : ¬ (s0 = 0) → E0 g YX12_mends d 14 [(0, .ref 130), (1, .int i1), (2, .int i3), (3, .int (i3 + 1))] [] M P) :
    E0 g YX12_mends d 54 [(0, .ref 130), (1, .int i1), (2, .int i2), (3, .int i3)] [.int s0] M P := by
  refine x_if_eq 59 dX12_mends_54 (by decide) (fun c1 => ?_) (fun c1 => ?_)
  · refine x_iinc (v := (i3 + 1)) (lv1 := [(3, .int (i3 + 1)), (0, .ref 130), (1, .int i1), (2, .int i2)]) dX12_mends_59 3 rfl rfl (by decide) rfl ?_
    refine x_goto 14 dX12_mends_62 (by decide) ?_
    exact EX.sub [1, 2, 3, 0] (k1 c1) rfl
  · refine x_iload_n dX12_mends_57 3 rfl ?_
    refine x_istore_n (lv1 := [(2, .int i3), (0, .ref 130), (1, .int i1), (3, .int i3)]) dX12_mends_58 (by decide) rfl ?_
    refine x_iinc (v := (i3 + 1)) (lv1 := [(3, .int (i3 + 1)), (2, .int i3), (0, .ref 130), (1, .int i1)]) dX12_mends_59 3 rfl rfl (by decide) rfl ?_
    refine x_goto 14 dX12_mends_62 (by decide) ?_
    exact EX.sub [2, 3, 1, 0] (k2 c1) rfl
set_option maxRecDepth 8000 in
theorem qX12_where_0 {g : GG} {d : Nat} {M : MM} {P : Option Value → MM → Prop} {i1 : Int32} {M1 : MM} {la lb pa pb rl : Nat} (L : Lay M la lb pa pb rl)
    (qM1 : M1 = wi M 130 0 0)
    (k1 : K0 g YX12_where YX12_isShot d 10 [.ref 130, .int i1] [(0, .ref 130), (1, .int i1)] [] M1 P) :
    E0 g YX12_where d 0 [(0, .ref 130), (1, .int i1)] [] M P := by
  have f1 : ob M 130 12 := L.s rfl (by decide)
  subst qM1
  refine x_aload_n dX12_where_0 0 rfl ?_
  refine x_iconst (v := 0) dX12_where_1 (by decide) ?_
  refine x_putI fdX12_138 rfl (Or.inl rfl) dX12_where_2 f1.1 f1.2 rfl rfl ?_
  refine x_aload_n dX12_where_5 0 rfl ?_
  refine x_iload_n dX12_where_6 1 rfl ?_
  refine EX.sub [0, 1] (K0.v (As := [.int i1]) (st := []) cvX12_347 dX12_where_7 rfl rfl f1 rfl (Nat.le_of_ble_eq_true rfl) (k1)) rfl
set_option maxRecDepth 8000 in
theorem qX12_where_10 {g : GG} {d : Nat} {M : MM} {P : Option Value → MM → Prop} {i1 : Int32} {s0 : Int32} {la lb pa pb rl : Nat} (L : Lay M la lb pa pb rl)
    (h1 : ¬ (s0 = 0) → vp_in (9 + i1) 19)
    (h2 : ¬ (s0 = 0) → ¬ ((mi M 162 ((9 + i1) : Int32).toNatClampNeg) ≤ 0) → vp_in (9 + i1) 19)
    (k1 : s0 = 0 → P (some (.int (-1))) M)
    (k2 : ¬ (s0 = 0) → (mi M 162 ((9 + i1) : Int32).toNatClampNeg) ≤ 0 → P (some (.int (-1))) M)
    (k3 : ¬ (s0 = 0) → ¬ ((mi M 162 ((9 + i1) : Int32).toNatClampNeg) ≤ 0) → P (some (.int ((mi M 162 ((9 + i1) : Int32).toNatClampNeg) - 1))) M) :
    E0 g YX12_where d 10 [(0, .ref 130), (1, .int i1)] [.int s0] M P := by
  have f1 : ob M 130 12 := L.s rfl (by decide)
  have f2 : mr M 130 43 = some 162 := L.r 157 rfl
  have f3 : ar M 162 1 19 := L.s rfl (by decide)
  refine x_if_eq 39 dX12_where_10 (by decide) (fun c1 => ?_) (fun c1 => ?_)
  · refine x_iconst (v := (-1)) dX12_where_39 (by decide) ?_
    exact x_iret rfl dX12_where_40 (Nat.le_refl _) (Nat.le_refl _) (k1 c1)
  · refine x_aload_n dX12_where_13 0 rfl ?_
    refine x_getR fdX12_105 rfl dX12_where_14 f1.1 f1.2 f2 ?_
    refine x_bipush (v := 9) dX12_where_17 (by decide) ?_
    refine x_iload_n dX12_where_19 1 rfl ?_
    refine x_iadd dX12_where_20 ?_
    refine x_iald dX12_where_21 f3.1 f3.2 (h1 c1) ?_
    refine x_if_le 39 dX12_where_22 (by decide) (fun c2 => ?_) (fun c2 => ?_)
    · refine x_iconst (v := (-1)) dX12_where_39 (by decide) ?_
      exact x_iret rfl dX12_where_40 (Nat.le_refl _) (Nat.le_refl _) (k2 c1 c2)
    · refine x_aload_n dX12_where_25 0 rfl ?_
      refine x_getR fdX12_105 rfl dX12_where_26 f1.1 f1.2 f2 ?_
      refine x_bipush (v := 9) dX12_where_29 (by decide) ?_
      refine x_iload_n dX12_where_31 1 rfl ?_
      refine x_iadd dX12_where_32 ?_
      refine x_iald dX12_where_33 f3.1 f3.2 (h2 c1 c2) ?_
      refine x_iconst (v := 1) dX12_where_34 (by decide) ?_
      refine x_isub dX12_where_35 ?_
      refine x_goto 40 dX12_where_36 (by decide) ?_
      exact x_iret rfl dX12_where_40 (Nat.le_refl _) (Nat.le_refl _) (k3 c1 c2)
set_option maxRecDepth 8000 in
theorem qX12_taste_0 {g : GG} {d : Nat} {M : MM} {P : Option Value → MM → Prop} {i1 : Int32} {i2 : Int32} {M1 : MM} {la lb pa pb rl : Nat} (L : Lay M la lb pa pb rl)
    (qM1 : M1 = wi M 130 0 0)
    (k1 : K0 g YX12_taste YX12_isHall d 10 [.ref 130, .int i1] [(0, .ref 130), (1, .int i1), (2, .int i2)] [] M1 P) :
    E0 g YX12_taste d 0 [(0, .ref 130), (1, .int i1), (2, .int i2)] [] M P := by
  have f1 : ob M 130 12 := L.s rfl (by decide)
  subst qM1
  refine x_aload_n dX12_taste_0 0 rfl ?_
  refine x_iconst (v := 0) dX12_taste_1 (by decide) ?_
  refine x_putI fdX12_138 rfl (Or.inl rfl) dX12_taste_2 f1.1 f1.2 rfl rfl ?_
  refine x_aload_n dX12_taste_5 0 rfl ?_
  refine x_iload_n dX12_taste_6 1 rfl ?_
  refine EX.sub [0, 1, 2] (K0.v (As := [.int i1]) (st := []) cvX12_350 dX12_taste_7 rfl rfl f1 rfl (Nat.le_of_ble_eq_true rfl) (k1)) rfl
set_option maxRecDepth 8000 in
theorem qX12_taste_10 {g : GG} {d : Nat} {M : MM} {P : Option Value → MM → Prop} {i1 : Int32} {i2 : Int32} {s0 : Int32} {la lb pa pb rl : Nat} (L : Lay M la lb pa pb rl)
    (k1 : s0 = 0 → P (some (.int (-1))) M)
    (k2 : ¬ (s0 = 0) → K0 g YX12_taste YX12_isHall d 18 [.ref 130, .int i2] [(0, .ref 130), (1, .int i1), (2, .int i2)] [] M P) :
    E0 g YX12_taste d 10 [(0, .ref 130), (1, .int i1), (2, .int i2)] [.int s0] M P := by
  have f1 : ob M 130 12 := L.s rfl (by decide)
  refine x_if_eq 26 dX12_taste_10 (by decide) (fun c1 => ?_) (fun c1 => ?_)
  · refine x_iconst (v := (-1)) dX12_taste_26 (by decide) ?_
    exact x_iret rfl dX12_taste_27 (Nat.le_refl _) (Nat.le_refl _) (k1 c1)
  · refine x_aload_n dX12_taste_13 0 rfl ?_
    refine x_iload_n dX12_taste_14 2 rfl ?_
    refine EX.sub [0, 1, 2] (K0.v (As := [.int i2]) (st := []) cvX12_350 dX12_taste_15 rfl rfl f1 rfl (Nat.le_of_ble_eq_true rfl) (k2 c1)) rfl
set_option maxRecDepth 8000 in
theorem qX12_taste_18 {g : GG} {d : Nat} {M : MM} {P : Option Value → MM → Prop} {i1 : Int32} {i2 : Int32} {s0 : Int32}
    (k1 : s0 = 0 → P (some (.int (-1))) M)
    (k2 : ¬ (s0 = 0) → ¬ i1 = i2 → E0 g YX12_taste d 33 [(0, .ref 130), (1, .int i1), (2, .int i2), (3, .int 0), (4, .int 0)] [] M P)
    (k3 : ¬ (s0 = 0) → i1 = i2 → P (some (.int (-1))) M) :
    E0 g YX12_taste d 18 [(0, .ref 130), (1, .int i1), (2, .int i2)] [.int s0] M P := by
  refine x_if_eq 26 dX12_taste_18 (by decide) (fun c1 => ?_) (fun c1 => ?_)
  · refine x_iconst (v := (-1)) dX12_taste_26 (by decide) ?_
    exact x_iret rfl dX12_taste_27 (Nat.le_refl _) (Nat.le_refl _) (k1 c1)
  · refine x_iload_n dX12_taste_21 1 rfl ?_
    refine x_iload_n dX12_taste_22 2 rfl ?_
    refine x_ic_ne 28 dX12_taste_23 (by decide) (fun c2 => ?_) (fun c2 => ?_)
    · refine x_iconst (v := 0) dX12_taste_28 (by decide) ?_
      refine x_istore_n (lv1 := [(3, .int 0), (0, .ref 130), (1, .int i1), (2, .int i2)]) dX12_taste_29 (by decide) rfl ?_
      refine x_iconst (v := 0) dX12_taste_30 (by decide) ?_
      refine x_istore (lv1 := [(4, .int 0), (3, .int 0), (0, .ref 130), (1, .int i1), (2, .int i2)]) dX12_taste_31 (by decide) rfl ?_
      exact EX.sub [2, 3, 4, 1, 0] (k2 c1 c2) rfl
    · refine x_iconst (v := (-1)) dX12_taste_26 (by decide) ?_
      exact x_iret rfl dX12_taste_27 (Nat.le_refl _) (Nat.le_refl _) (k3 c1 c2)
set_option maxRecDepth 8000 in
theorem qX12_taste_33 {g : GG} {d : Nat} {M : MM} {P : Option Value → MM → Prop} {i1 : Int32} {i2 : Int32} {i3 : Int32} {i4 : Int32} {la lb pa pb rl : Nat} (L : Lay M la lb pa pb rl)
    (k1 : (mi M 132 0) ≤ i4 → P (some (.int i3)) M)
    (k2 : ¬ ((mi M 132 0) ≤ i4) → K0 g YX12_taste YX12_hates d 55 [.ref 130, .int i1, .int i4, .int 0, .int 10] [(0, .ref 130), (1, .int i1), (2, .int i2), (4, .int i4)] [.int i3] M P) :
    E0 g YX12_taste d 33 [(0, .ref 130), (1, .int i1), (2, .int i2), (3, .int i3), (4, .int i4)] [] M P := by
  have f1 : ob M 130 12 := L.s rfl (by decide)
  have f2 : mr M 130 10 = some 132 := L.r 127 rfl
  have f3 : ar M 132 1 4 := L.s rfl (by decide)
  refine x_iload dX12_taste_33 4 rfl ?_
  refine x_aload_n dX12_taste_35 0 rfl ?_
  refine x_getR fdX12_13 rfl dX12_taste_36 f1.1 f1.2 f2 ?_
  refine x_iconst (v := 0) dX12_taste_39 (by decide) ?_
  refine x_iald dX12_taste_40 f3.1 f3.2 (by unfold vp_in; decide) ?_
  refine x_ic_ge 81 dX12_taste_41 (by decide) (fun c1 => ?_) (fun c1 => ?_)
  · refine x_iload_n dX12_taste_81 3 rfl ?_
    exact x_iret rfl dX12_taste_82 (Nat.le_refl _) (Nat.le_refl _) (k1 c1)
  · refine x_iload_n dX12_taste_44 3 rfl ?_
    refine x_aload_n dX12_taste_45 0 rfl ?_
    refine x_iload_n dX12_taste_46 1 rfl ?_
    refine x_iload dX12_taste_47 4 rfl ?_
    refine x_iconst (v := 0) dX12_taste_49 (by decide) ?_
    refine x_bipush (v := 10) dX12_taste_50 (by decide) ?_
    refine EX.sub [0, 1, 2, 4] (K0.v (As := [.int i1, .int i4, .int 0, .int 10]) (st := [.int i3]) cvX12_336 dX12_taste_52 rfl rfl f1 rfl (Nat.le_of_ble_eq_true rfl) (k2 c1)) rfl
set_option maxRecDepth 8000 in
theorem qX12_taste_55 {g : GG} {d : Nat} {M : MM} {P : Option Value → MM → Prop} {i1 : Int32} {i2 : Int32} {i4 : Int32} {s0 : Int32} {s1 : Int32} {la lb pa pb rl : Nat} (L : Lay M la lb pa pb rl)
    (k1 : K0 g YX12_taste YX12_hates d 65 [.ref 130, .int i2, .int i4, .int 0, .int 10] [(0, .ref 130), (1, .int i1), (2, .int i2), (4, .int i4)] [.int s1, .int s0] M P) :
    E0 g YX12_taste d 55 [(0, .ref 130), (1, .int i1), (2, .int i2), (4, .int i4)] [.int s1, .int s0] M P := by
  have f1 : ob M 130 12 := L.s rfl (by decide)
  refine x_aload_n dX12_taste_55 0 rfl ?_
  refine x_iload_n dX12_taste_56 2 rfl ?_
  refine x_iload dX12_taste_57 3 rfl ?_
  refine x_iconst (v := 0) dX12_taste_59 (by decide) ?_
  refine x_bipush (v := 10) dX12_taste_60 (by decide) ?_
  refine EX.sub [0, 1, 2, 3] (K0.v (As := [.int i2, .int i4, .int 0, .int 10]) (st := [.int s1, .int s0]) cvX12_336 dX12_taste_62 rfl rfl f1 rfl (Nat.le_of_ble_eq_true rfl) (k1)) rfl
set_option maxRecDepth 8000 in
theorem qX12_taste_65 {g : GG} {d : Nat} {M : MM} {P : Option Value → MM → Prop} {i1 : Int32} {i2 : Int32} {i4 : Int32} {s0 : Int32} {s1 : Int32} {s2 : Int32}
    (k1 : ¬ s1 = s2 → E0 g YX12_taste d 33 [(0, .ref 130), (1, .int i1), (2, .int i2), (3, .int (s0 + 0)), (4, .int (i4 + 1))] [] M P)
    (k2 : s1 = s2 → E0 g YX12_taste d 33 [(0, .ref 130), (1, .int i1), (2, .int i2), (3, .int (s0 + 1)), (4, .int (i4 + 1))] [] M P) :
    E0 g YX12_taste d 65 [(0, .ref 130), (1, .int i1), (2, .int i2), (4, .int i4)] [.int s2, .int s1, .int s0] M P := by
  refine x_ic_ne 72 dX12_taste_65 (by decide) (fun c1 => ?_) (fun c1 => ?_)
  · refine x_iconst (v := 0) dX12_taste_72 (by decide) ?_
    refine x_iadd dX12_taste_73 ?_
    refine x_istore_n (lv1 := [(3, .int (s0 + 0)), (0, .ref 130), (1, .int i1), (2, .int i2), (4, .int i4)]) dX12_taste_74 (by decide) rfl ?_
    refine x_iinc (v := (i4 + 1)) (lv1 := [(4, .int (i4 + 1)), (3, .int (s0 + 0)), (0, .ref 130), (1, .int i1), (2, .int i2)]) dX12_taste_75 4 rfl rfl (by decide) rfl ?_
    refine x_goto 33 dX12_taste_78 (by decide) ?_
    exact EX.sub [2, 3, 4, 1, 0] (k1 c1) rfl
  · refine x_iconst (v := 1) dX12_taste_68 (by decide) ?_
    refine x_goto 73 dX12_taste_69 (by decide) ?_
    refine x_iadd dX12_taste_73 ?_
    refine x_istore_n (lv1 := [(3, .int (s0 + 1)), (0, .ref 130), (1, .int i1), (2, .int i2), (4, .int i4)]) dX12_taste_74 (by decide) rfl ?_
    refine x_iinc (v := (i4 + 1)) (lv1 := [(4, .int (i4 + 1)), (3, .int (s0 + 1)), (0, .ref 130), (1, .int i1), (2, .int i2)]) dX12_taste_75 4 rfl rfl (by decide) rfl ?_
    refine x_goto 33 dX12_taste_78 (by decide) ?_
    exact EX.sub [2, 3, 4, 1, 0] (k2 c1) rfl
set_option maxRecDepth 8000 in
theorem qX12_mild_0 {g : GG} {d : Nat} {M : MM} {P : Option Value → MM → Prop}  {M1 : MM} {la lb pa pb rl : Nat} (L : Lay M la lb pa pb rl)
    (qM1 : M1 = wi M 130 0 0)
    (k1 : E0 g YX12_mild d 11 [(0, .ref 130), (1, .int (-1)), (2, .int 0), (3, .int 0)] [] M1 P) :
    E0 g YX12_mild d 0 [(0, .ref 130)] [] M P := by
  have f1 : ob M 130 12 := L.s rfl (by decide)
  subst qM1
  refine x_aload_n dX12_mild_0 0 rfl ?_
  refine x_iconst (v := 0) dX12_mild_1 (by decide) ?_
  refine x_putI fdX12_138 rfl (Or.inl rfl) dX12_mild_2 f1.1 f1.2 rfl rfl ?_
  refine x_iconst (v := (-1)) dX12_mild_5 (by decide) ?_
  refine x_istore_n (lv1 := [(1, .int (-1)), (0, .ref 130)]) dX12_mild_6 (by decide) rfl ?_
  refine x_iconst (v := 0) dX12_mild_7 (by decide) ?_
  refine x_istore_n (lv1 := [(2, .int 0), (1, .int (-1)), (0, .ref 130)]) dX12_mild_8 (by decide) rfl ?_
  refine x_iconst (v := 0) dX12_mild_9 (by decide) ?_
  refine x_istore_n (lv1 := [(3, .int 0), (2, .int 0), (1, .int (-1)), (0, .ref 130)]) dX12_mild_10 (by decide) rfl ?_
  exact EX.sub [3, 2, 1, 0] k1 rfl
set_option maxRecDepth 8000 in
theorem qX12_mild_11 {g : GG} {d : Nat} {M : MM} {P : Option Value → MM → Prop} {i1 : Int32} {i2 : Int32} {i3 : Int32} {la lb pa pb rl : Nat} (L : Lay M la lb pa pb rl)
    (k1 : (mi M 132 1) ≤ i3 → P (some (.int i1)) M)
    (k2 : ¬ ((mi M 132 1) ≤ i3) → K0 g YX12_mild YX12_allShots d 28 [.ref 130] [(0, .ref 130), (1, .int i1), (2, .int i2), (3, .int i3)] [.int i3, .ref 130, .ref 130] M P) :
    E0 g YX12_mild d 11 [(0, .ref 130), (1, .int i1), (2, .int i2), (3, .int i3)] [] M P := by
  have f1 : ob M 130 12 := L.s rfl (by decide)
  have f2 : mr M 130 10 = some 132 := L.r 127 rfl
  have f3 : ar M 132 1 4 := L.s rfl (by decide)
  refine x_iload_n dX12_mild_11 3 rfl ?_
  refine x_aload_n dX12_mild_12 0 rfl ?_
  refine x_getR fdX12_13 rfl dX12_mild_13 f1.1 f1.2 f2 ?_
  refine x_iconst (v := 1) dX12_mild_16 (by decide) ?_
  refine x_iald dX12_mild_17 f3.1 f3.2 (by unfold vp_in; decide) ?_
  refine x_ic_ge 60 dX12_mild_18 (by decide) (fun c1 => ?_) (fun c1 => ?_)
  · refine x_iload_n dX12_mild_60 1 rfl ?_
    exact x_iret rfl dX12_mild_61 (Nat.le_refl _) (Nat.le_refl _) (k1 c1)
  · refine x_aload_n dX12_mild_21 0 rfl ?_
    refine x_aload_n dX12_mild_22 0 rfl ?_
    refine x_iload_n dX12_mild_23 3 rfl ?_
    refine x_aload_n dX12_mild_24 0 rfl ?_
    refine EX.sub [0, 1, 2, 3] (K0.v (As := []) (st := [.int i3, .ref 130, .ref 130]) cvX12_314 dX12_mild_25 rfl rfl f1 rfl (Nat.le_of_ble_eq_true rfl) (k2 c1)) rfl
set_option maxRecDepth 8000 in
theorem qX12_mild_28 {g : GG} {d : Nat} {M : MM} {P : Option Value → MM → Prop} {i1 : Int32} {i2 : Int32} {i3 : Int32} {s0 : Nat} {s1 : Nat} {s2 : Int32} {s3 : Int32}
    (h1 : ob M s1 12)
    (k1 : K0 g YX12_mild YX12_takesOut d 31 [.ref s1, .int s2, .int s3] [(0, .ref 130), (1, .int i1), (2, .int i2), (3, .int i3)] [.ref s0] M P) :
    E0 g YX12_mild d 28 [(0, .ref 130), (1, .int i1), (2, .int i2), (3, .int i3)] [.int s3, .int s2, .ref s1, .ref s0] M P := by
  refine EX.sub [0, 1, 2, 3] (K0.v (As := [.int s2, .int s3]) (st := [.ref s0]) cvX12_340 dX12_mild_28 rfl rfl h1 rfl (Nat.le_of_ble_eq_true rfl) (k1)) rfl
set_option maxRecDepth 8000 in
theorem qX12_mild_31 {g : GG} {d : Nat} {M : MM} {P : Option Value → MM → Prop} {i1 : Int32} {i2 : Int32} {i3 : Int32} {s0 : Nat} {s1 : Int32}
    (h1 : ob M s0 12)
    (k1 : K0 g YX12_mild YX12_minutesOf d 34 [.ref s0, .int s1] [(0, .ref 130), (1, .int i1), (2, .int i2), (3, .int i3)] [] M P) :
    E0 g YX12_mild d 31 [(0, .ref 130), (1, .int i1), (2, .int i2), (3, .int i3)] [.int s1, .ref s0] M P := by
  refine EX.sub [0, 1, 2, 3] (K0.v (As := [.int s1]) (st := []) cvX12_369 dX12_mild_31 rfl rfl h1 rfl (Nat.le_of_ble_eq_true rfl) (k1)) rfl
set_option maxRecDepth 8000 in
theorem qX12_mild_34 {g : GG} {d : Nat} {M : MM} {P : Option Value → MM → Prop} {i1 : Int32} {i2 : Int32} {i3 : Int32} {s0 : Int32}
    (k1 : i1 < 0 → E0 g YX12_mild d 11 [(0, .ref 130), (1, .int i3), (2, .int s0), (3, .int (i3 + 1))] [] M P)
    (k2 : ¬ (i1 < 0) → s0 < i2 → E0 g YX12_mild d 11 [(0, .ref 130), (1, .int i3), (2, .int s0), (3, .int (i3 + 1))] [] M P)
    (k3 : ¬ (i1 < 0) → ¬ (s0 < i2) → E0 g YX12_mild d 11 [(0, .ref 130), (1, .int i1), (2, .int i2), (3, .int (i3 + 1))] [] M P) :
    E0 g YX12_mild d 34 [(0, .ref 130), (1, .int i1), (2, .int i2), (3, .int i3)] [.int s0] M P := by
  refine x_istore (lv1 := [(4, .int s0), (0, .ref 130), (1, .int i1), (2, .int i2), (3, .int i3)]) dX12_mild_34 (by decide) rfl ?_
  refine x_iload_n dX12_mild_36 2 rfl ?_
  refine x_if_lt 49 dX12_mild_37 (by decide) (fun c1 => ?_) (fun c1 => ?_)
  · refine x_iload_n dX12_mild_49 4 rfl ?_
    refine x_istore_n (lv1 := [(1, .int i3), (4, .int s0), (0, .ref 130), (2, .int i2), (3, .int i3)]) dX12_mild_50 (by decide) rfl ?_
    refine x_iload dX12_mild_51 1 rfl ?_
    refine x_istore_n (lv1 := [(2, .int s0), (1, .int i3), (4, .int s0), (0, .ref 130), (3, .int i3)]) dX12_mild_53 (by decide) rfl ?_
    refine x_iinc (v := (i3 + 1)) (lv1 := [(3, .int (i3 + 1)), (2, .int s0), (1, .int i3), (4, .int s0), (0, .ref 130)]) dX12_mild_54 4 rfl rfl (by decide) rfl ?_
    refine x_goto 11 dX12_mild_57 (by decide) ?_
    exact EX.sub [4, 2, 1, 0] (k1 c1) rfl
  · refine x_iload dX12_mild_40 0 rfl ?_
    refine x_iload_n dX12_mild_42 3 rfl ?_
    refine x_ic_lt 49 dX12_mild_43 (by decide) (fun c2 => ?_) (fun c2 => ?_)
    · refine x_iload_n dX12_mild_49 4 rfl ?_
      refine x_istore_n (lv1 := [(1, .int i3), (4, .int s0), (0, .ref 130), (2, .int i2), (3, .int i3)]) dX12_mild_50 (by decide) rfl ?_
      refine x_iload dX12_mild_51 1 rfl ?_
      refine x_istore_n (lv1 := [(2, .int s0), (1, .int i3), (4, .int s0), (0, .ref 130), (3, .int i3)]) dX12_mild_53 (by decide) rfl ?_
      refine x_iinc (v := (i3 + 1)) (lv1 := [(3, .int (i3 + 1)), (2, .int s0), (1, .int i3), (4, .int s0), (0, .ref 130)]) dX12_mild_54 4 rfl rfl (by decide) rfl ?_
      refine x_goto 11 dX12_mild_57 (by decide) ?_
      exact EX.sub [4, 2, 1, 0] (k2 c1 c2) rfl
    · refine x_goto 54 dX12_mild_46 (by decide) ?_
      refine x_iinc (v := (i3 + 1)) (lv1 := [(3, .int (i3 + 1)), (4, .int s0), (0, .ref 130), (1, .int i1), (2, .int i2)]) dX12_mild_54 4 rfl rfl (by decide) rfl ?_
      refine x_goto 11 dX12_mild_57 (by decide) ?_
      exact EX.sub [2, 3, 4, 0] (k3 c1 c2) rfl
set_option maxRecDepth 8000 in
theorem qX12_see_0 {g : GG} {d : Nat} {M : MM} {P : Option Value → MM → Prop} {i1 : Int32} {i2 : Int32} {M1 : MM} {la lb pa pb rl : Nat} (L : Lay M la lb pa pb rl)
    (qM1 : M1 = wi M 130 0 0)
    (k1 : K0 g YX12_see YX12_isShot d 10 [.ref 130, .int i1] [(0, .ref 130), (1, .int i1), (2, .int i2)] [] M1 P) :
    E0 g YX12_see d 0 [(0, .ref 130), (1, .int i1), (2, .int i2)] [] M P := by
  have f1 : ob M 130 12 := L.s rfl (by decide)
  subst qM1
  refine x_aload_n dX12_see_0 0 rfl ?_
  refine x_iconst (v := 0) dX12_see_1 (by decide) ?_
  refine x_putI fdX12_138 rfl (Or.inl rfl) dX12_see_2 f1.1 f1.2 rfl rfl ?_
  refine x_aload_n dX12_see_5 0 rfl ?_
  refine x_iload_n dX12_see_6 1 rfl ?_
  refine EX.sub [0, 1, 2] (K0.v (As := [.int i1]) (st := []) cvX12_347 dX12_see_7 rfl rfl f1 rfl (Nat.le_of_ble_eq_true rfl) (k1)) rfl
set_option maxRecDepth 8000 in
theorem qX12_see_10 {g : GG} {d : Nat} {M : MM} {P : Option Value → MM → Prop} {i1 : Int32} {i2 : Int32} {s0 : Int32} {M1 : MM} {M2 : MM} {M3 : MM} {la lb pa pb rl : Nat} (L : Lay M la lb pa pb rl)
    (qM1 : M1 = wi M 160 ((mi M 159 0) : Int32).toNatClampNeg i1)
    (qM2 : M2 = wi M1 161 ((mi M1 159 0) : Int32).toNatClampNeg (vp_nar .boolean i2))
    (qM3 : M3 = wi M2 159 0 ((mi M2 159 0) + 1))
    (h1 : ¬ (s0 = 0) → ¬ (mi M 159 0) = 8 → vp_in (mi M 159 0) 40)
    (h2 : ¬ (s0 = 0) → ¬ (mi M 159 0) = 8 → vp_in (mi M1 159 0) 40)
    (k1 : s0 = 0 → P (some (.int 0)) M)
    (k2 : ¬ (s0 = 0) → ¬ (mi M 159 0) = 8 → P (some (.int 1)) M3)
    (k3 : ¬ (s0 = 0) → (mi M 159 0) = 8 → P (some (.int 0)) M) :
    E0 g YX12_see d 10 [(0, .ref 130), (1, .int i1), (2, .int i2)] [.int s0] M P := by
  have f1 : ob M 130 12 := L.s rfl (by decide)
  have f2 : mr M 130 40 = some 159 := L.r 154 rfl
  have f3 : ar M 159 1 5 := L.s rfl (by decide)
  have f4 : mr M 130 41 = some 160 := L.r 155 rfl
  have f5 : ar M 160 1 40 := L.s rfl (by decide)
  have f6 : mr M 130 42 = some 161 := L.r 156 rfl
  have f7 : ar M 161 3 40 := L.s rfl (by decide)
  subst qM1 qM2 qM3
  refine x_if_eq 24 dX12_see_10 (by decide) (fun c1 => ?_) (fun c1 => ?_)
  · refine x_iconst (v := 0) dX12_see_24 (by decide) ?_
    exact x_zret rfl dX12_see_25 rfl (Nat.le_refl _) (Nat.le_refl _) (k1 c1)
  · refine x_aload_n dX12_see_13 0 rfl ?_
    refine x_getR fdX12_96 rfl dX12_see_14 f1.1 f1.2 f2 ?_
    refine x_iconst (v := 0) dX12_see_17 (by decide) ?_
    refine x_iald dX12_see_18 f3.1 f3.2 (by unfold vp_in; decide) ?_
    refine x_bipush (v := 8) dX12_see_19 (by decide) ?_
    refine x_ic_ne 26 dX12_see_21 (by decide) (fun c2 => ?_) (fun c2 => ?_)
    · refine x_aload_n dX12_see_26 0 rfl ?_
      refine x_getR fdX12_99 rfl dX12_see_27 f1.1 f1.2 f4 ?_
      refine x_aload_n dX12_see_30 0 rfl ?_
      refine x_getR fdX12_96 rfl dX12_see_31 f1.1 f1.2 f2 ?_
      refine x_iconst (v := 0) dX12_see_34 (by decide) ?_
      refine x_iald dX12_see_35 f3.1 f3.2 (by unfold vp_in; decide) ?_
      refine x_iload_n dX12_see_36 1 rfl ?_
      refine x_iast dX12_see_37 f5.1 f5.2 (h1 c1 c2) ?_
      refine x_aload_n dX12_see_38 0 rfl ?_
      refine x_getR fdX12_102 rfl dX12_see_39 f1.1 f1.2 f6 ?_
      refine x_aload_n dX12_see_42 0 rfl ?_
      refine x_getR fdX12_96 rfl dX12_see_43 f1.1 f1.2 f2 ?_
      refine x_iconst (v := 0) dX12_see_46 (by decide) ?_
      refine x_iald dX12_see_47 f3.1 f3.2 (by unfold vp_in; decide) ?_
      refine x_iload_n dX12_see_48 2 rfl ?_
      refine x_zast dX12_see_49 f7.1 f7.2 (h2 c1 c2) ?_
      refine x_aload_n dX12_see_50 0 rfl ?_
      refine x_getR fdX12_96 rfl dX12_see_51 f1.1 f1.2 f2 ?_
      refine x_iconst (v := 0) dX12_see_54 (by decide) ?_
      refine x_dup2 dX12_see_55 rfl rfl ?_
      refine x_iald dX12_see_56 f3.1 f3.2 (by unfold vp_in; decide) ?_
      refine x_iconst (v := 1) dX12_see_57 (by decide) ?_
      refine x_iadd dX12_see_58 ?_
      refine x_iast dX12_see_59 f3.1 f3.2 (by unfold vp_in; decide) ?_
      refine x_iconst (v := 1) dX12_see_60 (by decide) ?_
      exact x_zret rfl dX12_see_61 rfl (Nat.le_refl _) (Nat.le_refl _) (k2 c1 c2)
    · refine x_iconst (v := 0) dX12_see_24 (by decide) ?_
      exact x_zret rfl dX12_see_25 rfl (Nat.le_refl _) (Nat.le_refl _) (k3 c1 c2)
set_option maxRecDepth 8000 in
theorem qX12_hallsAsSeen_0 {g : GG} {d : Nat} {M : MM} {P : Option Value → MM → Prop} 
    (k1 : E0 g YX12_hallsAsSeen d 4 [(0, .ref 130), (1, .int 0), (2, .int 0)] [] M P) :
    E0 g YX12_hallsAsSeen d 0 [(0, .ref 130)] [] M P := by
  refine x_iconst (v := 0) dX12_hallsAsSeen_0 (by decide) ?_
  refine x_istore_n (lv1 := [(1, .int 0), (0, .ref 130)]) dX12_hallsAsSeen_1 (by decide) rfl ?_
  refine x_iconst (v := 0) dX12_hallsAsSeen_2 (by decide) ?_
  refine x_istore_n (lv1 := [(2, .int 0), (1, .int 0), (0, .ref 130)]) dX12_hallsAsSeen_3 (by decide) rfl ?_
  exact EX.sub [2, 1, 0] k1 rfl
set_option maxRecDepth 8000 in
theorem qX12_hallsAsSeen_4 {g : GG} {d : Nat} {M : MM} {P : Option Value → MM → Prop} {i1 : Int32} {i2 : Int32} {la lb pa pb rl : Nat} (L : Lay M la lb pa pb rl)
    (k1 : (mi M 132 1) ≤ i2 → P (some (.int i1)) M)
    (k2 : ¬ ((mi M 132 1) ≤ i2) → K0 g YX12_hallsAsSeen YX12_takesOut d 31 [.ref 130, .int i2, .int (mi M 162 0)] [(0, .ref 130), (1, .int i1), (2, .int i2)] [.int (mi M 162 0)] M P) :
    E0 g YX12_hallsAsSeen d 4 [(0, .ref 130), (1, .int i1), (2, .int i2)] [] M P := by
  have f1 : ob M 130 12 := L.s rfl (by decide)
  have f2 : mr M 130 10 = some 132 := L.r 127 rfl
  have f3 : ar M 132 1 4 := L.s rfl (by decide)
  have f4 : mr M 130 43 = some 162 := L.r 157 rfl
  have f5 : ar M 162 1 19 := L.s rfl (by decide)
  refine x_iload_n dX12_hallsAsSeen_4 2 rfl ?_
  refine x_aload_n dX12_hallsAsSeen_5 0 rfl ?_
  refine x_getR fdX12_13 rfl dX12_hallsAsSeen_6 f1.1 f1.2 f2 ?_
  refine x_iconst (v := 1) dX12_hallsAsSeen_9 (by decide) ?_
  refine x_iald dX12_hallsAsSeen_10 f3.1 f3.2 (by unfold vp_in; decide) ?_
  refine x_ic_ge 121 dX12_hallsAsSeen_11 (by decide) (fun c1 => ?_) (fun c1 => ?_)
  · refine x_iload_n dX12_hallsAsSeen_121 1 rfl ?_
    exact x_iret rfl dX12_hallsAsSeen_122 (Nat.le_refl _) (Nat.le_refl _) (k1 c1)
  · refine x_aload_n dX12_hallsAsSeen_14 0 rfl ?_
    refine x_getR fdX12_105 rfl dX12_hallsAsSeen_15 f1.1 f1.2 f4 ?_
    refine x_iconst (v := 0) dX12_hallsAsSeen_18 (by decide) ?_
    refine x_iald dX12_hallsAsSeen_19 f5.1 f5.2 (by unfold vp_in; decide) ?_
    refine x_aload_n dX12_hallsAsSeen_20 0 rfl ?_
    refine x_iload_n dX12_hallsAsSeen_21 2 rfl ?_
    refine x_aload_n dX12_hallsAsSeen_22 0 rfl ?_
    refine x_getR fdX12_105 rfl dX12_hallsAsSeen_23 f1.1 f1.2 f4 ?_
    refine x_iconst (v := 0) dX12_hallsAsSeen_26 (by decide) ?_
    refine x_iald dX12_hallsAsSeen_27 f5.1 f5.2 (by unfold vp_in; decide) ?_
    refine EX.sub [0, 1, 2] (K0.v (As := [.int i2, .int (mi M 162 0)]) (st := [.int (mi M 162 0)]) cvX12_340 dX12_hallsAsSeen_28 rfl rfl f1 rfl (Nat.le_of_ble_eq_true rfl) (k2 c1)) rfl
set_option maxRecDepth 8000 in
theorem qX12_hallsAsSeen_31 {g : GG} {d : Nat} {M : MM} {P : Option Value → MM → Prop} {i1 : Int32} {i2 : Int32} {s0 : Int32} {s1 : Int32}
    (k1 : E0 g YX12_hallsAsSeen d 41 [(0, .ref 130), (1, .int i1), (2, .int i2), (3, .int (s0 &&& (s1 ^^^ (-1)))), (4, .int 1), (5, .int 0)] [] M P) :
    E0 g YX12_hallsAsSeen d 31 [(0, .ref 130), (1, .int i1), (2, .int i2)] [.int s1, .int s0] M P := by
  refine x_iconst (v := (-1)) dX12_hallsAsSeen_31 (by decide) ?_
  refine x_ixor dX12_hallsAsSeen_32 ?_
  refine x_iand dX12_hallsAsSeen_33 ?_
  refine x_istore_n (lv1 := [(3, .int (s0 &&& (s1 ^^^ (-1)))), (0, .ref 130), (1, .int i1), (2, .int i2)]) dX12_hallsAsSeen_34 (by decide) rfl ?_
  refine x_iconst (v := 1) dX12_hallsAsSeen_35 (by decide) ?_
  refine x_istore (lv1 := [(4, .int 1), (3, .int (s0 &&& (s1 ^^^ (-1)))), (0, .ref 130), (1, .int i1), (2, .int i2)]) dX12_hallsAsSeen_36 (by decide) rfl ?_
  refine x_iconst (v := 0) dX12_hallsAsSeen_38 (by decide) ?_
  refine x_istore (lv1 := [(5, .int 0), (4, .int 1), (3, .int (s0 &&& (s1 ^^^ (-1)))), (0, .ref 130), (1, .int i1), (2, .int i2)]) dX12_hallsAsSeen_39 (by decide) rfl ?_
  exact EX.sub [3, 4, 5, 2, 1, 0] k1 rfl
set_option maxRecDepth 8000 in
theorem qX12_hallsAsSeen_41 {g : GG} {d : Nat} {M : MM} {P : Option Value → MM → Prop} {i1 : Int32} {i2 : Int32} {i3 : Int32} {i4 : Int32} {i5 : Int32} {la lb pa pb rl : Nat} (L : Lay M la lb pa pb rl)
    (h1 : ¬ ((mi M 159 0) ≤ i5) → ¬ (i4 = 0) → vp_in i5 40)
    (h2 : ¬ ((mi M 159 0) ≤ i5) → ¬ (i4 = 0) → ¬ ((i3 >>> ((mi M 160 (i5 : Int32).toNatClampNeg) &&& 31)) &&& 1) = 1 → vp_in i5 40)
    (h3 : ¬ ((mi M 159 0) ≤ i5) → ¬ (i4 = 0) → ((i3 >>> ((mi M 160 (i5 : Int32).toNatClampNeg) &&& 31)) &&& 1) = 1 → vp_in i5 40)
    (k1 : (mi M 159 0) ≤ i5 → i4 = 0 → E0 g YX12_hallsAsSeen d 4 [(0, .ref 130), (1, .int (i1 ||| 0)), (2, .int (i2 + 1))] [] M P)
    (k2 : (mi M 159 0) ≤ i5 → ¬ (i4 = 0) → E0 g YX12_hallsAsSeen d 4 [(0, .ref 130), (1, .int (i1 ||| ((1 : Int32) <<< (i2 &&& 31)))), (2, .int (i2 + 1))] [] M P)
    (k3 : ¬ ((mi M 159 0) ≤ i5) → i4 = 0 → E0 g YX12_hallsAsSeen d 41 [(0, .ref 130), (1, .int i1), (2, .int i2), (3, .int i3), (4, .int 0), (5, .int (i5 + 1))] [] M P)
    (k4 : ¬ ((mi M 159 0) ≤ i5) → ¬ (i4 = 0) → ¬ ((i3 >>> ((mi M 160 (i5 : Int32).toNatClampNeg) &&& 31)) &&& 1) = 1 → ¬ (0 : Int32) = (mi M 161 (i5 : Int32).toNatClampNeg) → E0 g YX12_hallsAsSeen d 41 [(0, .ref 130), (1, .int i1), (2, .int i2), (3, .int i3), (4, .int 0), (5, .int (i5 + 1))] [] M P)
    (k5 : ¬ ((mi M 159 0) ≤ i5) → ¬ (i4 = 0) → ¬ ((i3 >>> ((mi M 160 (i5 : Int32).toNatClampNeg) &&& 31)) &&& 1) = 1 → (0 : Int32) = (mi M 161 (i5 : Int32).toNatClampNeg) → E0 g YX12_hallsAsSeen d 41 [(0, .ref 130), (1, .int i1), (2, .int i2), (3, .int i3), (4, .int 1), (5, .int (i5 + 1))] [] M P)
    (k6 : ¬ ((mi M 159 0) ≤ i5) → ¬ (i4 = 0) → ((i3 >>> ((mi M 160 (i5 : Int32).toNatClampNeg) &&& 31)) &&& 1) = 1 → ¬ (1 : Int32) = (mi M 161 (i5 : Int32).toNatClampNeg) → E0 g YX12_hallsAsSeen d 41 [(0, .ref 130), (1, .int i1), (2, .int i2), (3, .int i3), (4, .int 0), (5, .int (i5 + 1))] [] M P)
    (k7 : ¬ ((mi M 159 0) ≤ i5) → ¬ (i4 = 0) → ((i3 >>> ((mi M 160 (i5 : Int32).toNatClampNeg) &&& 31)) &&& 1) = 1 → (1 : Int32) = (mi M 161 (i5 : Int32).toNatClampNeg) → E0 g YX12_hallsAsSeen d 41 [(0, .ref 130), (1, .int i1), (2, .int i2), (3, .int i3), (4, .int 1), (5, .int (i5 + 1))] [] M P) :
    E0 g YX12_hallsAsSeen d 41 [(0, .ref 130), (1, .int i1), (2, .int i2), (3, .int i3), (4, .int i4), (5, .int i5)] [] M P := by
  have f1 : ob M 130 12 := L.s rfl (by decide)
  have f2 : mr M 130 40 = some 159 := L.r 154 rfl
  have f3 : ar M 159 1 5 := L.s rfl (by decide)
  have f4 : mr M 130 41 = some 160 := L.r 155 rfl
  have f5 : ar M 160 1 40 := L.s rfl (by decide)
  have f6 : mr M 130 42 = some 161 := L.r 156 rfl
  have f7 : ar M 161 3 40 := L.s rfl (by decide)
  refine x_iload dX12_hallsAsSeen_41 5 rfl ?_
  refine x_aload_n dX12_hallsAsSeen_43 0 rfl ?_
  refine x_getR fdX12_96 rfl dX12_hallsAsSeen_44 f1.1 f1.2 f2 ?_
  refine x_iconst (v := 0) dX12_hallsAsSeen_47 (by decide) ?_
  refine x_iald dX12_hallsAsSeen_48 f3.1 f3.2 (by unfold vp_in; decide) ?_
  refine x_ic_ge 100 dX12_hallsAsSeen_49 (by decide) (fun c1 => ?_) (fun c1 => ?_)
  · refine x_iload_n dX12_hallsAsSeen_100 1 rfl ?_
    refine x_iload dX12_hallsAsSeen_101 4 rfl ?_
    refine x_if_eq 112 dX12_hallsAsSeen_103 (by decide) (fun c2 => ?_) (fun c2 => ?_)
    · refine x_iconst (v := 0) dX12_hallsAsSeen_112 (by decide) ?_
      refine x_ior dX12_hallsAsSeen_113 ?_
      refine x_istore_n (lv1 := [(1, .int (i1 ||| 0)), (0, .ref 130), (2, .int i2), (3, .int i3), (4, .int i4), (5, .int i5)]) dX12_hallsAsSeen_114 (by decide) rfl ?_
      refine x_iinc (v := (i2 + 1)) (lv1 := [(2, .int (i2 + 1)), (1, .int (i1 ||| 0)), (0, .ref 130), (3, .int i3), (4, .int i4), (5, .int i5)]) dX12_hallsAsSeen_115 2 rfl rfl (by decide) rfl ?_
      refine x_goto 4 dX12_hallsAsSeen_118 (by decide) ?_
      exact EX.sub [2, 1, 0] (k1 c1 c2) rfl
    · refine x_iconst (v := 1) dX12_hallsAsSeen_106 (by decide) ?_
      refine x_iload_n dX12_hallsAsSeen_107 2 rfl ?_
      refine x_ishl dX12_hallsAsSeen_108 ?_
      refine x_goto 113 dX12_hallsAsSeen_109 (by decide) ?_
      refine x_ior dX12_hallsAsSeen_113 ?_
      refine x_istore_n (lv1 := [(1, .int (i1 ||| ((1 : Int32) <<< (i2 &&& 31)))), (0, .ref 130), (2, .int i2), (3, .int i3), (4, .int i4), (5, .int i5)]) dX12_hallsAsSeen_114 (by decide) rfl ?_
      refine x_iinc (v := (i2 + 1)) (lv1 := [(2, .int (i2 + 1)), (1, .int (i1 ||| ((1 : Int32) <<< (i2 &&& 31)))), (0, .ref 130), (3, .int i3), (4, .int i4), (5, .int i5)]) dX12_hallsAsSeen_115 2 rfl rfl (by decide) rfl ?_
      refine x_goto 4 dX12_hallsAsSeen_118 (by decide) ?_
      exact EX.sub [2, 1, 0] (k2 c1 c2) rfl
  · refine x_iload dX12_hallsAsSeen_52 4 rfl ?_
    refine x_if_eq 91 dX12_hallsAsSeen_54 (by decide) (fun c2 => ?_) (fun c2 => ?_)
    · refine x_iconst (v := 0) dX12_hallsAsSeen_91 (by decide) ?_
      refine x_istore (lv1 := [(4, .int 0), (0, .ref 130), (1, .int i1), (2, .int i2), (3, .int i3), (5, .int i5)]) dX12_hallsAsSeen_92 (by decide) rfl ?_
      refine x_iinc (v := (i5 + 1)) (lv1 := [(5, .int (i5 + 1)), (4, .int 0), (0, .ref 130), (1, .int i1), (2, .int i2), (3, .int i3)]) dX12_hallsAsSeen_94 5 rfl rfl (by decide) rfl ?_
      refine x_goto 41 dX12_hallsAsSeen_97 (by decide) ?_
      exact EX.sub [2, 3, 4, 5, 1, 0] (k3 c1 c2) rfl
    · refine x_iload_n dX12_hallsAsSeen_57 3 rfl ?_
      refine x_aload_n dX12_hallsAsSeen_58 0 rfl ?_
      refine x_getR fdX12_99 rfl dX12_hallsAsSeen_59 f1.1 f1.2 f4 ?_
      refine x_iload dX12_hallsAsSeen_62 5 rfl ?_
      refine x_iald dX12_hallsAsSeen_64 f5.1 f5.2 (h1 c1 c2) ?_
      refine x_ishr dX12_hallsAsSeen_65 ?_
      refine x_iconst (v := 1) dX12_hallsAsSeen_66 (by decide) ?_
      refine x_iand dX12_hallsAsSeen_67 ?_
      refine x_iconst (v := 1) dX12_hallsAsSeen_68 (by decide) ?_
      refine x_ic_ne 76 dX12_hallsAsSeen_69 (by decide) (fun c3 => ?_) (fun c3 => ?_)
      · refine x_iconst (v := 0) dX12_hallsAsSeen_76 (by decide) ?_
        refine x_aload_n dX12_hallsAsSeen_77 0 rfl ?_
        refine x_getR fdX12_102 rfl dX12_hallsAsSeen_78 f1.1 f1.2 f6 ?_
        refine x_iload dX12_hallsAsSeen_81 5 rfl ?_
        refine x_zald dX12_hallsAsSeen_83 f7.1 f7.2 (h2 c1 c2 c3) ?_
        refine x_ic_ne 91 dX12_hallsAsSeen_84 (by decide) (fun c4 => ?_) (fun c4 => ?_)
        · refine x_iconst (v := 0) dX12_hallsAsSeen_91 (by decide) ?_
          refine x_istore (lv1 := [(4, .int 0), (0, .ref 130), (1, .int i1), (2, .int i2), (3, .int i3), (5, .int i5)]) dX12_hallsAsSeen_92 (by decide) rfl ?_
          refine x_iinc (v := (i5 + 1)) (lv1 := [(5, .int (i5 + 1)), (4, .int 0), (0, .ref 130), (1, .int i1), (2, .int i2), (3, .int i3)]) dX12_hallsAsSeen_94 5 rfl rfl (by decide) rfl ?_
          refine x_goto 41 dX12_hallsAsSeen_97 (by decide) ?_
          exact EX.sub [2, 3, 4, 5, 1, 0] (k4 c1 c2 c3 c4) rfl
        · refine x_iconst (v := 1) dX12_hallsAsSeen_87 (by decide) ?_
          refine x_goto 92 dX12_hallsAsSeen_88 (by decide) ?_
          refine x_istore (lv1 := [(4, .int 1), (0, .ref 130), (1, .int i1), (2, .int i2), (3, .int i3), (5, .int i5)]) dX12_hallsAsSeen_92 (by decide) rfl ?_
          refine x_iinc (v := (i5 + 1)) (lv1 := [(5, .int (i5 + 1)), (4, .int 1), (0, .ref 130), (1, .int i1), (2, .int i2), (3, .int i3)]) dX12_hallsAsSeen_94 5 rfl rfl (by decide) rfl ?_
          refine x_goto 41 dX12_hallsAsSeen_97 (by decide) ?_
          exact EX.sub [2, 3, 4, 5, 1, 0] (k5 c1 c2 c3 c4) rfl
      · refine x_iconst (v := 1) dX12_hallsAsSeen_72 (by decide) ?_
        refine x_goto 77 dX12_hallsAsSeen_73 (by decide) ?_
        refine x_aload_n dX12_hallsAsSeen_77 0 rfl ?_
        refine x_getR fdX12_102 rfl dX12_hallsAsSeen_78 f1.1 f1.2 f6 ?_
        refine x_iload dX12_hallsAsSeen_81 5 rfl ?_
        refine x_zald dX12_hallsAsSeen_83 f7.1 f7.2 (h3 c1 c2 c3) ?_
        refine x_ic_ne 91 dX12_hallsAsSeen_84 (by decide) (fun c4 => ?_) (fun c4 => ?_)
        · refine x_iconst (v := 0) dX12_hallsAsSeen_91 (by decide) ?_
          refine x_istore (lv1 := [(4, .int 0), (0, .ref 130), (1, .int i1), (2, .int i2), (3, .int i3), (5, .int i5)]) dX12_hallsAsSeen_92 (by decide) rfl ?_
          refine x_iinc (v := (i5 + 1)) (lv1 := [(5, .int (i5 + 1)), (4, .int 0), (0, .ref 130), (1, .int i1), (2, .int i2), (3, .int i3)]) dX12_hallsAsSeen_94 5 rfl rfl (by decide) rfl ?_
          refine x_goto 41 dX12_hallsAsSeen_97 (by decide) ?_
          exact EX.sub [2, 3, 4, 5, 1, 0] (k6 c1 c2 c3 c4) rfl
        · refine x_iconst (v := 1) dX12_hallsAsSeen_87 (by decide) ?_
          refine x_goto 92 dX12_hallsAsSeen_88 (by decide) ?_
          refine x_istore (lv1 := [(4, .int 1), (0, .ref 130), (1, .int i1), (2, .int i2), (3, .int i3), (5, .int i5)]) dX12_hallsAsSeen_92 (by decide) rfl ?_
          refine x_iinc (v := (i5 + 1)) (lv1 := [(5, .int (i5 + 1)), (4, .int 1), (0, .ref 130), (1, .int i1), (2, .int i2), (3, .int i3)]) dX12_hallsAsSeen_94 5 rfl rfl (by decide) rfl ?_
          refine x_goto 41 dX12_hallsAsSeen_97 (by decide) ?_
          exact EX.sub [2, 3, 4, 5, 1, 0] (k7 c1 c2 c3 c4) rfl
set_option maxRecDepth 8000 in
theorem qX12_halls_0 {g : GG} {d : Nat} {M : MM} {P : Option Value → MM → Prop}  {M1 : MM} {la lb pa pb rl : Nat} (L : Lay M la lb pa pb rl)
    (qM1 : M1 = wi M 130 0 0)
    (k1 : K0 g YX12_halls YX12_hallsAsSeen d 9 [.ref 130] [] [] M1 P) :
    E0 g YX12_halls d 0 [(0, .ref 130)] [] M P := by
  have f1 : ob M 130 12 := L.s rfl (by decide)
  subst qM1
  refine x_aload_n dX12_halls_0 0 rfl ?_
  refine x_iconst (v := 0) dX12_halls_1 (by decide) ?_
  refine x_putI fdX12_138 rfl (Or.inl rfl) dX12_halls_2 f1.1 f1.2 rfl rfl ?_
  refine x_aload_n dX12_halls_5 0 rfl ?_
  refine EX.sub [] (K0.v (As := []) (st := []) cvX12_423 dX12_halls_6 rfl rfl f1 rfl (Nat.le_of_ble_eq_true rfl) (k1)) rfl
set_option maxRecDepth 8000 in
theorem qX12_halls_9 {g : GG} {d : Nat} {M : MM} {P : Option Value → MM → Prop} {s0 : Int32}
    (k1 : P (some (.int s0)) M) :
    E0 g YX12_halls d 9 [] [.int s0] M P := by
  exact x_iret rfl dX12_halls_9 (Nat.le_refl _) (Nat.le_refl _) (k1)
set_option maxRecDepth 8000 in
theorem qX12_ask_0 {g : GG} {d : Nat} {M : MM} {P : Option Value → MM → Prop}  {M1 : MM} {la lb pa pb rl : Nat} (L : Lay M la lb pa pb rl)
    (qM1 : M1 = wi M 130 0 0)
    (k1 : K0 g YX12_ask YX12_hallsAsSeen d 9 [.ref 130] [(0, .ref 130)] [] M1 P) :
    E0 g YX12_ask d 0 [(0, .ref 130)] [] M P := by
  have f1 : ob M 130 12 := L.s rfl (by decide)
  subst qM1
  refine x_aload_n dX12_ask_0 0 rfl ?_
  refine x_iconst (v := 0) dX12_ask_1 (by decide) ?_
  refine x_putI fdX12_138 rfl (Or.inl rfl) dX12_ask_2 f1.1 f1.2 rfl rfl ?_
  refine x_aload_n dX12_ask_5 0 rfl ?_
  refine EX.sub [0] (K0.v (As := []) (st := []) cvX12_423 dX12_ask_6 rfl rfl f1 rfl (Nat.le_of_ble_eq_true rfl) (k1)) rfl
set_option maxRecDepth 8000 in
theorem qX12_ask_9 {g : GG} {d : Nat} {M : MM} {P : Option Value → MM → Prop} {s0 : Int32}
    (k1 : K0 g YX12_ask YX12_bits d 14 [.int s0] [(0, .ref 130), (1, .int s0)] [] M P) :
    E0 g YX12_ask d 9 [(0, .ref 130)] [.int s0] M P := by
  refine x_istore_n (lv1 := [(1, .int s0), (0, .ref 130)]) dX12_ask_9 (by decide) rfl ?_
  refine x_iload_n dX12_ask_10 0 rfl ?_
  refine EX.sub [1, 0] (K0.s (As := [.int s0]) (st := []) csX12_375 dX12_ask_11 rfl rfl (Nat.le_of_ble_eq_true rfl) (k1)) rfl
set_option maxRecDepth 8000 in
theorem qX12_ask_14 {g : GG} {d : Nat} {M : MM} {P : Option Value → MM → Prop} {i1 : Int32} {s0 : Int32}
    (k1 : E0 g YX12_ask d 23 [(0, .ref 130), (1, .int i1), (2, .int s0), (3, .int s0), (4, .int (-1)), (5, .int 0)] [] M P) :
    E0 g YX12_ask d 14 [(0, .ref 130), (1, .int i1)] [.int s0] M P := by
  refine x_istore_n (lv1 := [(2, .int s0), (0, .ref 130), (1, .int i1)]) dX12_ask_14 (by decide) rfl ?_
  refine x_iload_n dX12_ask_15 0 rfl ?_
  refine x_istore_n (lv1 := [(3, .int s0), (2, .int s0), (0, .ref 130), (1, .int i1)]) dX12_ask_16 (by decide) rfl ?_
  refine x_iconst (v := (-1)) dX12_ask_17 (by decide) ?_
  refine x_istore (lv1 := [(4, .int (-1)), (3, .int s0), (2, .int s0), (0, .ref 130), (1, .int i1)]) dX12_ask_18 (by decide) rfl ?_
  refine x_iconst (v := 0) dX12_ask_20 (by decide) ?_
  refine x_istore (lv1 := [(5, .int 0), (4, .int (-1)), (3, .int s0), (2, .int s0), (0, .ref 130), (1, .int i1)]) dX12_ask_21 (by decide) rfl ?_
  exact EX.sub [4, 5, 3, 2, 1, 0] k1 rfl
set_option maxRecDepth 8000 in
theorem qX12_ask_23 {g : GG} {d : Nat} {M : MM} {P : Option Value → MM → Prop} {i1 : Int32} {i2 : Int32} {i3 : Int32} {i4 : Int32} {i5 : Int32} {la lb pa pb rl : Nat} (L : Lay M la lb pa pb rl)
    (k1 : (mi M 132 0) ≤ i5 → P (some (.int i4)) M)
    (k2 : ¬ ((mi M 132 0) ≤ i5) → E0 g YX12_ask d 40 [(0, .ref 130), (1, .int i1), (2, .int i2), (3, .int i3), (4, .int i4), (5, .int i5), (6, .int 0), (7, .int 0)] [] M P) :
    E0 g YX12_ask d 23 [(0, .ref 130), (1, .int i1), (2, .int i2), (3, .int i3), (4, .int i4), (5, .int i5)] [] M P := by
  have f1 : ob M 130 12 := L.s rfl (by decide)
  have f2 : mr M 130 10 = some 132 := L.r 127 rfl
  have f3 : ar M 132 1 4 := L.s rfl (by decide)
  refine x_iload dX12_ask_23 5 rfl ?_
  refine x_aload_n dX12_ask_25 0 rfl ?_
  refine x_getR fdX12_13 rfl dX12_ask_26 f1.1 f1.2 f2 ?_
  refine x_iconst (v := 0) dX12_ask_29 (by decide) ?_
  refine x_iald dX12_ask_30 f3.1 f3.2 (by unfold vp_in; decide) ?_
  refine x_ic_ge 139 dX12_ask_31 (by decide) (fun c1 => ?_) (fun c1 => ?_)
  · refine x_iload dX12_ask_139 4 rfl ?_
    exact x_iret rfl dX12_ask_141 (Nat.le_refl _) (Nat.le_refl _) (k1 c1)
  · refine x_iconst (v := 0) dX12_ask_34 (by decide) ?_
    refine x_istore (lv1 := [(6, .int 0), (0, .ref 130), (1, .int i1), (2, .int i2), (3, .int i3), (4, .int i4), (5, .int i5)]) dX12_ask_35 (by decide) rfl ?_
    refine x_iconst (v := 0) dX12_ask_37 (by decide) ?_
    refine x_istore (lv1 := [(7, .int 0), (6, .int 0), (0, .ref 130), (1, .int i1), (2, .int i2), (3, .int i3), (4, .int i4), (5, .int i5)]) dX12_ask_38 (by decide) rfl ?_
    exact EX.sub [2, 3, 4, 5, 6, 7, 1, 0] (k2 c1) rfl
set_option maxRecDepth 8000 in
theorem qX12_ask_40 {g : GG} {d : Nat} {M : MM} {P : Option Value → MM → Prop} {i1 : Int32} {i2 : Int32} {i3 : Int32} {i4 : Int32} {i5 : Int32} {i6 : Int32} {i7 : Int32} {la lb pa pb rl : Nat} (L : Lay M la lb pa pb rl)
    (h1 : 1 ≤ d)
    (k1 : (mi M 132 1) ≤ i7 → (if i6 < (i2 - i6) then (i2 - i6) else i6) < i3 → E0 g YX12_ask d 23 [(0, .ref 130), (1, .int i1), (2, .int i2), (3, .int (if i6 < (i2 - i6) then (i2 - i6) else i6)), (4, .int i5), (5, .int (i5 + 1))] [] M P)
    (k2 : (mi M 132 1) ≤ i7 → ¬ ((if i6 < (i2 - i6) then (i2 - i6) else i6) < i3) → E0 g YX12_ask d 23 [(0, .ref 130), (1, .int i1), (2, .int i2), (3, .int i3), (4, .int i4), (5, .int (i5 + 1))] [] M P)
    (k3 : ¬ ((mi M 132 1) ≤ i7) → ¬ ((i1 >>> (i7 &&& 31)) &&& 1) = 1 → E0 g YX12_ask d 40 [(0, .ref 130), (1, .int i1), (2, .int i2), (3, .int i3), (4, .int i4), (5, .int i5), (6, .int (i6 + 0)), (7, .int (i7 + 1))] [] M P)
    (k4 : ¬ ((mi M 132 1) ≤ i7) → ((i1 >>> (i7 &&& 31)) &&& 1) = 1 → K0 g YX12_ask YX12_takesOut d 81 [.ref 130, .int i7, .int (mi M 162 0)] [(0, .ref 130), (1, .int i1), (2, .int i2), (3, .int i3), (4, .int i4), (5, .int i5), (7, .int i7)] [.int (mi M 162 0), .int i6] M P) :
    E0 g YX12_ask d 40 [(0, .ref 130), (1, .int i1), (2, .int i2), (3, .int i3), (4, .int i4), (5, .int i5), (6, .int i6), (7, .int i7)] [] M P := by
  have f1 : ob M 130 12 := L.s rfl (by decide)
  have f2 : mr M 130 10 = some 132 := L.r 127 rfl
  have f3 : ar M 132 1 4 := L.s rfl (by decide)
  have f4 : mr M 130 43 = some 162 := L.r 157 rfl
  have f5 : ar M 162 1 19 := L.s rfl (by decide)
  refine x_iload dX12_ask_40 7 rfl ?_
  refine x_aload_n dX12_ask_42 0 rfl ?_
  refine x_getR fdX12_13 rfl dX12_ask_43 f1.1 f1.2 f2 ?_
  refine x_iconst (v := 1) dX12_ask_46 (by decide) ?_
  refine x_iald dX12_ask_47 f3.1 f3.2 (by unfold vp_in; decide) ?_
  refine x_ic_ge 106 dX12_ask_48 (by decide) (fun c1 => ?_) (fun c1 => ?_)
  · refine x_iload dX12_ask_106 6 rfl ?_
    refine x_iload_n dX12_ask_108 2 rfl ?_
    refine x_iload dX12_ask_109 6 rfl ?_
    refine x_isub dX12_ask_111 ?_
    refine x_max dX12_ask_112 mmX12_405 gk_max1 gk_math gk_max2 h1 (Nat.le_refl _) (Nat.le_refl _) (Nat.le_of_ble_eq_true rfl) ?_
    refine x_istore (lv1 := [(6, .int (if i6 < (i2 - i6) then (i2 - i6) else i6)), (0, .ref 130), (1, .int i1), (2, .int i2), (3, .int i3), (4, .int i4), (5, .int i5), (7, .int i7)]) dX12_ask_115 (by decide) rfl ?_
    refine x_iload dX12_ask_117 0 rfl ?_
    refine x_iload_n dX12_ask_119 4 rfl ?_
    refine x_ic_lt 126 dX12_ask_120 (by decide) (fun c2 => ?_) (fun c2 => ?_)
    · refine x_iload dX12_ask_126 0 rfl ?_
      refine x_istore_n (lv1 := [(3, .int (if i6 < (i2 - i6) then (i2 - i6) else i6)), (6, .int (if i6 < (i2 - i6) then (i2 - i6) else i6)), (0, .ref 130), (1, .int i1), (2, .int i2), (4, .int i4), (5, .int i5), (7, .int i7)]) dX12_ask_128 (by decide) rfl ?_
      refine x_iload dX12_ask_129 6 rfl ?_
      refine x_istore (lv1 := [(4, .int i5), (3, .int (if i6 < (i2 - i6) then (i2 - i6) else i6)), (6, .int (if i6 < (i2 - i6) then (i2 - i6) else i6)), (0, .ref 130), (1, .int i1), (2, .int i2), (5, .int i5), (7, .int i7)]) dX12_ask_131 (by decide) rfl ?_
      refine x_iinc (v := (i5 + 1)) (lv1 := [(5, .int (i5 + 1)), (4, .int i5), (3, .int (if i6 < (i2 - i6) then (i2 - i6) else i6)), (6, .int (if i6 < (i2 - i6) then (i2 - i6) else i6)), (0, .ref 130), (1, .int i1), (2, .int i2), (7, .int i7)]) dX12_ask_133 6 rfl rfl (by decide) rfl ?_
      refine x_goto 23 dX12_ask_136 (by decide) ?_
      exact EX.sub [4, 5, 6, 2, 1, 0] (k1 c1 c2) rfl
    · refine x_goto 133 dX12_ask_123 (by decide) ?_
      refine x_iinc (v := (i5 + 1)) (lv1 := [(5, .int (i5 + 1)), (6, .int (if i6 < (i2 - i6) then (i2 - i6) else i6)), (0, .ref 130), (1, .int i1), (2, .int i2), (3, .int i3), (4, .int i4), (7, .int i7)]) dX12_ask_133 6 rfl rfl (by decide) rfl ?_
      refine x_goto 23 dX12_ask_136 (by decide) ?_
      exact EX.sub [2, 3, 4, 5, 6, 0] (k2 c1 c2) rfl
  · refine x_iload dX12_ask_51 6 rfl ?_
    refine x_iload_n dX12_ask_53 1 rfl ?_
    refine x_iload dX12_ask_54 7 rfl ?_
    refine x_ishr dX12_ask_56 ?_
    refine x_iconst (v := 1) dX12_ask_57 (by decide) ?_
    refine x_iand dX12_ask_58 ?_
    refine x_iconst (v := 1) dX12_ask_59 (by decide) ?_
    refine x_ic_ne 96 dX12_ask_60 (by decide) (fun c2 => ?_) (fun c2 => ?_)
    · refine x_iconst (v := 0) dX12_ask_96 (by decide) ?_
      refine x_iadd dX12_ask_97 ?_
      refine x_istore (lv1 := [(6, .int (i6 + 0)), (0, .ref 130), (1, .int i1), (2, .int i2), (3, .int i3), (4, .int i4), (5, .int i5), (7, .int i7)]) dX12_ask_98 (by decide) rfl ?_
      refine x_iinc (v := (i7 + 1)) (lv1 := [(7, .int (i7 + 1)), (6, .int (i6 + 0)), (0, .ref 130), (1, .int i1), (2, .int i2), (3, .int i3), (4, .int i4), (5, .int i5)]) dX12_ask_100 7 rfl rfl (by decide) rfl ?_
      refine x_goto 40 dX12_ask_103 (by decide) ?_
      exact EX.sub [2, 3, 4, 5, 6, 7, 1, 0] (k3 c1 c2) rfl
    · refine x_aload_n dX12_ask_63 0 rfl ?_
      refine x_getR fdX12_105 rfl dX12_ask_64 f1.1 f1.2 f4 ?_
      refine x_iconst (v := 0) dX12_ask_67 (by decide) ?_
      refine x_iald dX12_ask_68 f5.1 f5.2 (by unfold vp_in; decide) ?_
      refine x_aload_n dX12_ask_69 0 rfl ?_
      refine x_iload dX12_ask_70 7 rfl ?_
      refine x_aload_n dX12_ask_72 0 rfl ?_
      refine x_getR fdX12_105 rfl dX12_ask_73 f1.1 f1.2 f4 ?_
      refine x_iconst (v := 0) dX12_ask_76 (by decide) ?_
      refine x_iald dX12_ask_77 f5.1 f5.2 (by unfold vp_in; decide) ?_
      refine EX.sub [0, 1, 2, 3, 4, 5, 7] (K0.v (As := [.int i7, .int (mi M 162 0)]) (st := [.int (mi M 162 0), .int i6]) cvX12_340 dX12_ask_78 rfl rfl f1 rfl (Nat.le_of_ble_eq_true rfl) (k4 c1 c2)) rfl
set_option maxRecDepth 8000 in
theorem qX12_ask_81 {g : GG} {d : Nat} {M : MM} {P : Option Value → MM → Prop} {i1 : Int32} {i2 : Int32} {i3 : Int32} {i4 : Int32} {i5 : Int32} {i7 : Int32} {s0 : Int32} {s1 : Int32} {s2 : Int32}
    (k1 : ((s1 &&& (s2 ^^^ (-1))) &&& ((1 : Int32) <<< (i5 &&& 31))) = 0 → E0 g YX12_ask d 40 [(0, .ref 130), (1, .int i1), (2, .int i2), (3, .int i3), (4, .int i4), (5, .int i5), (6, .int (s0 + 0)), (7, .int (i7 + 1))] [] M P)
    (k2 : ¬ (((s1 &&& (s2 ^^^ (-1))) &&& ((1 : Int32) <<< (i5 &&& 31))) = 0) → E0 g YX12_ask d 40 [(0, .ref 130), (1, .int i1), (2, .int i2), (3, .int i3), (4, .int i4), (5, .int i5), (6, .int (s0 + 1)), (7, .int (i7 + 1))] [] M P) :
    E0 g YX12_ask d 81 [(0, .ref 130), (1, .int i1), (2, .int i2), (3, .int i3), (4, .int i4), (5, .int i5), (7, .int i7)] [.int s2, .int s1, .int s0] M P := by
  refine x_iconst (v := (-1)) dX12_ask_81 (by decide) ?_
  refine x_ixor dX12_ask_82 ?_
  refine x_iand dX12_ask_83 ?_
  refine x_iconst (v := 1) dX12_ask_84 (by decide) ?_
  refine x_iload dX12_ask_85 5 rfl ?_
  refine x_ishl dX12_ask_87 ?_
  refine x_iand dX12_ask_88 ?_
  refine x_if_eq 96 dX12_ask_89 (by decide) (fun c1 => ?_) (fun c1 => ?_)
  · refine x_iconst (v := 0) dX12_ask_96 (by decide) ?_
    refine x_iadd dX12_ask_97 ?_
    refine x_istore (lv1 := [(6, .int (s0 + 0)), (0, .ref 130), (1, .int i1), (2, .int i2), (3, .int i3), (4, .int i4), (5, .int i5), (7, .int i7)]) dX12_ask_98 (by decide) rfl ?_
    refine x_iinc (v := (i7 + 1)) (lv1 := [(7, .int (i7 + 1)), (6, .int (s0 + 0)), (0, .ref 130), (1, .int i1), (2, .int i2), (3, .int i3), (4, .int i4), (5, .int i5)]) dX12_ask_100 7 rfl rfl (by decide) rfl ?_
    refine x_goto 40 dX12_ask_103 (by decide) ?_
    exact EX.sub [2, 3, 4, 5, 6, 7, 1, 0] (k1 c1) rfl
  · refine x_iconst (v := 1) dX12_ask_92 (by decide) ?_
    refine x_goto 97 dX12_ask_93 (by decide) ?_
    refine x_iadd dX12_ask_97 ?_
    refine x_istore (lv1 := [(6, .int (s0 + 1)), (0, .ref 130), (1, .int i1), (2, .int i2), (3, .int i3), (4, .int i4), (5, .int i5), (7, .int i7)]) dX12_ask_98 (by decide) rfl ?_
    refine x_iinc (v := (i7 + 1)) (lv1 := [(7, .int (i7 + 1)), (6, .int (s0 + 1)), (0, .ref 130), (1, .int i1), (2, .int i2), (3, .int i3), (4, .int i4), (5, .int i5)]) dX12_ask_100 7 rfl rfl (by decide) rfl ?_
    refine x_goto 40 dX12_ask_103 (by decide) ?_
    exact EX.sub [2, 3, 4, 5, 6, 7, 1, 0] (k2 c1) rfl
set_option maxRecDepth 8000 in
theorem qX12_getsBy_0 {g : GG} {d : Nat} {M : MM} {P : Option Value → MM → Prop} {i0 : Int32} {i1 : Int32} {i2 : Int32} {i3 : Int32} {i4 : Int32}
    (k1 : ¬ i3 = 1 → ¬ i4 = 1 → P (some (.int i1)) M)
    (k2 : ¬ i3 = 1 → i4 = 1 → P (some (.int 0)) M)
    (k3 : i3 = 1 → ¬ i4 = 1 → P (some (.int i2)) M)
    (k4 : i3 = 1 → i4 = 1 → P (some (.int i0)) M) :
    E0 g YX12_getsBy d 0 [(0, .int i0), (1, .int i1), (2, .int i2), (3, .int i3), (4, .int i4)] [] M P := by
  refine x_iload_n dX12_getsBy_0 3 rfl ?_
  refine x_iconst (v := 1) dX12_getsBy_1 (by decide) ?_
  refine x_ic_ne 19 dX12_getsBy_2 (by decide) (fun c1 => ?_) (fun c1 => ?_)
  · refine x_iload dX12_getsBy_19 4 rfl ?_
    refine x_iconst (v := 1) dX12_getsBy_21 (by decide) ?_
    refine x_ic_ne 29 dX12_getsBy_22 (by decide) (fun c2 => ?_) (fun c2 => ?_)
    · refine x_iload_n dX12_getsBy_29 1 rfl ?_
      exact x_iret rfl dX12_getsBy_30 (Nat.le_refl _) (Nat.le_refl _) (k1 c1 c2)
    · refine x_iconst (v := 0) dX12_getsBy_25 (by decide) ?_
      refine x_goto 30 dX12_getsBy_26 (by decide) ?_
      exact x_iret rfl dX12_getsBy_30 (Nat.le_refl _) (Nat.le_refl _) (k2 c1 c2)
  · refine x_iload dX12_getsBy_5 4 rfl ?_
    refine x_iconst (v := 1) dX12_getsBy_7 (by decide) ?_
    refine x_ic_ne 15 dX12_getsBy_8 (by decide) (fun c2 => ?_) (fun c2 => ?_)
    · refine x_iload_n dX12_getsBy_15 2 rfl ?_
      refine x_goto 30 dX12_getsBy_16 (by decide) ?_
      exact x_iret rfl dX12_getsBy_30 (Nat.le_refl _) (Nat.le_refl _) (k3 c1 c2)
    · refine x_iload_n dX12_getsBy_11 0 rfl ?_
      refine x_goto 30 dX12_getsBy_12 (by decide) ?_
      exact x_iret rfl dX12_getsBy_30 (Nat.le_refl _) (Nat.le_refl _) (k4 c1 c2)
set_option maxRecDepth 8000 in
theorem qX12_rests_0 {g : GG} {d : Nat} {M : MM} {P : Option Value → MM → Prop} {i1 : Int32} {i2 : Int32} {i3 : Int32} {i4 : Int32}
    (k1 : K0 g YX12_rests YX12_within d 8 [.int i1, .int 0, .int 9] [(0, .ref 130), (1, .int i1), (2, .int i2), (3, .int i3), (4, .int i4)] [.ref 130] M P) :
    E0 g YX12_rests d 0 [(0, .ref 130), (1, .int i1), (2, .int i2), (3, .int i3), (4, .int i4)] [] M P := by
  refine x_aload_n dX12_rests_0 0 rfl ?_
  refine x_iload_n dX12_rests_1 1 rfl ?_
  refine x_iconst (v := 0) dX12_rests_2 (by decide) ?_
  refine x_bipush (v := 9) dX12_rests_3 (by decide) ?_
  refine EX.sub [0, 1, 2, 3, 4] (K0.s (As := [.int i1, .int 0, .int 9]) (st := [.ref 130]) csX12_253 dX12_rests_5 rfl rfl (Nat.le_of_ble_eq_true rfl) (k1)) rfl
set_option maxRecDepth 8000 in
theorem qX12_rests_8 {g : GG} {d : Nat} {M : MM} {P : Option Value → MM → Prop} {i1 : Int32} {i2 : Int32} {i3 : Int32} {i4 : Int32} {s0 : Nat} {s1 : Int32} {M1 : MM} {la lb pa pb rl : Nat} (L : Lay M la lb pa pb rl)
    (qM1 : M1 = wi M s0 0 1)
    (h1 : ob M s0 12)
    (k1 : s1 = 0 → ¬ (mi M1 130 0) = 1 → E0 g YX12_rests d 61 [(0, .ref 130), (1, .int i1), (2, .int i2), (3, .int i3), (4, .int i4), (5, .int 0), (6, .int 0)] [] M1 P)
    (k2 : s1 = 0 → (mi M1 130 0) = 1 → P (some (.int 0)) M1)
    (k3 : ¬ (s1 = 0) → K0 g YX12_rests YX12_within d 18 [.int i2, .int 0, .int 9] [(0, .ref 130), (1, .int i1), (2, .int i2), (3, .int i3), (4, .int i4)] [.ref s0] M P) :
    E0 g YX12_rests d 8 [(0, .ref 130), (1, .int i1), (2, .int i2), (3, .int i3), (4, .int i4)] [.int s1, .ref s0] M P := by
  have f1 : ob M 130 12 := L.s rfl (by decide)
  subst qM1
  refine x_if_eq 41 dX12_rests_8 (by decide) (fun c1 => ?_) (fun c1 => ?_)
  · refine x_iconst (v := 1) dX12_rests_41 (by decide) ?_
    refine x_putI fdX12_138 rfl (Or.inl rfl) dX12_rests_42 h1.1 h1.2 rfl rfl ?_
    refine x_aload_n dX12_rests_45 0 rfl ?_
    refine x_getI fdX12_138 rfl dX12_rests_46 f1.1 f1.2 ?_
    refine x_iconst (v := 1) dX12_rests_49 (by decide) ?_
    refine x_ic_ne 55 dX12_rests_50 (by decide) (fun c2 => ?_) (fun c2 => ?_)
    · refine x_iconst (v := 0) dX12_rests_55 (by decide) ?_
      refine x_istore (lv1 := [(5, .int 0), (0, .ref 130), (1, .int i1), (2, .int i2), (3, .int i3), (4, .int i4)]) dX12_rests_56 (by decide) rfl ?_
      refine x_iconst (v := 0) dX12_rests_58 (by decide) ?_
      refine x_istore (lv1 := [(6, .int 0), (5, .int 0), (0, .ref 130), (1, .int i1), (2, .int i2), (3, .int i3), (4, .int i4)]) dX12_rests_59 (by decide) rfl ?_
      exact EX.sub [2, 3, 4, 5, 6, 1, 0] (k1 c1 c2) rfl
    · refine x_iconst (v := 0) dX12_rests_53 (by decide) ?_
      exact x_iret rfl dX12_rests_54 (Nat.le_refl _) (Nat.le_refl _) (k2 c1 c2)
  · refine x_iload_n dX12_rests_11 2 rfl ?_
    refine x_iconst (v := 0) dX12_rests_12 (by decide) ?_
    refine x_bipush (v := 9) dX12_rests_13 (by decide) ?_
    refine EX.sub [0, 1, 2, 3, 4] (K0.s (As := [.int i2, .int 0, .int 9]) (st := [.ref s0]) csX12_253 dX12_rests_15 rfl rfl (Nat.le_of_ble_eq_true rfl) (k3 c1)) rfl
set_option maxRecDepth 8000 in
theorem qX12_rests_18 {g : GG} {d : Nat} {M : MM} {P : Option Value → MM → Prop} {i1 : Int32} {i2 : Int32} {i3 : Int32} {i4 : Int32} {s0 : Nat} {s1 : Int32} {M1 : MM} {la lb pa pb rl : Nat} (L : Lay M la lb pa pb rl)
    (qM1 : M1 = wi M s0 0 1)
    (h1 : ob M s0 12)
    (k1 : s1 = 0 → ¬ (mi M1 130 0) = 1 → E0 g YX12_rests d 61 [(0, .ref 130), (1, .int i1), (2, .int i2), (3, .int i3), (4, .int i4), (5, .int 0), (6, .int 0)] [] M1 P)
    (k2 : s1 = 0 → (mi M1 130 0) = 1 → P (some (.int 0)) M1)
    (k3 : ¬ (s1 = 0) → K0 g YX12_rests YX12_within d 28 [.int i3, .int 0, .int 9] [(0, .ref 130), (1, .int i1), (2, .int i2), (3, .int i3), (4, .int i4)] [.ref s0] M P) :
    E0 g YX12_rests d 18 [(0, .ref 130), (1, .int i1), (2, .int i2), (3, .int i3), (4, .int i4)] [.int s1, .ref s0] M P := by
  have f1 : ob M 130 12 := L.s rfl (by decide)
  subst qM1
  refine x_if_eq 41 dX12_rests_18 (by decide) (fun c1 => ?_) (fun c1 => ?_)
  · refine x_iconst (v := 1) dX12_rests_41 (by decide) ?_
    refine x_putI fdX12_138 rfl (Or.inl rfl) dX12_rests_42 h1.1 h1.2 rfl rfl ?_
    refine x_aload_n dX12_rests_45 0 rfl ?_
    refine x_getI fdX12_138 rfl dX12_rests_46 f1.1 f1.2 ?_
    refine x_iconst (v := 1) dX12_rests_49 (by decide) ?_
    refine x_ic_ne 55 dX12_rests_50 (by decide) (fun c2 => ?_) (fun c2 => ?_)
    · refine x_iconst (v := 0) dX12_rests_55 (by decide) ?_
      refine x_istore (lv1 := [(5, .int 0), (0, .ref 130), (1, .int i1), (2, .int i2), (3, .int i3), (4, .int i4)]) dX12_rests_56 (by decide) rfl ?_
      refine x_iconst (v := 0) dX12_rests_58 (by decide) ?_
      refine x_istore (lv1 := [(6, .int 0), (5, .int 0), (0, .ref 130), (1, .int i1), (2, .int i2), (3, .int i3), (4, .int i4)]) dX12_rests_59 (by decide) rfl ?_
      exact EX.sub [2, 3, 4, 5, 6, 1, 0] (k1 c1 c2) rfl
    · refine x_iconst (v := 0) dX12_rests_53 (by decide) ?_
      exact x_iret rfl dX12_rests_54 (Nat.le_refl _) (Nat.le_refl _) (k2 c1 c2)
  · refine x_iload_n dX12_rests_21 3 rfl ?_
    refine x_iconst (v := 0) dX12_rests_22 (by decide) ?_
    refine x_bipush (v := 9) dX12_rests_23 (by decide) ?_
    refine EX.sub [0, 1, 2, 3, 4] (K0.s (As := [.int i3, .int 0, .int 9]) (st := [.ref s0]) csX12_253 dX12_rests_25 rfl rfl (Nat.le_of_ble_eq_true rfl) (k3 c1)) rfl
set_option maxRecDepth 8000 in
theorem qX12_rests_28 {g : GG} {d : Nat} {M : MM} {P : Option Value → MM → Prop} {i1 : Int32} {i2 : Int32} {i3 : Int32} {i4 : Int32} {s0 : Nat} {s1 : Int32} {M1 : MM} {M2 : MM} {M3 : MM} {la lb pa pb rl : Nat} (L : Lay M la lb pa pb rl)
    (qM1 : M1 = wi M s0 0 1)
    (qM2 : M2 = wi M s0 0 1)
    (qM3 : M3 = wi M s0 0 0)
    (h1 : ob M s0 12)
    (k1 : s1 = 0 → ¬ (mi M1 130 0) = 1 → E0 g YX12_rests d 61 [(0, .ref 130), (1, .int i1), (2, .int i2), (3, .int i3), (4, .int i4), (5, .int 0), (6, .int 0)] [] M1 P)
    (k2 : s1 = 0 → (mi M1 130 0) = 1 → P (some (.int 0)) M1)
    (k3 : ¬ (s1 = 0) → i4 < (-1) → ¬ (mi M2 130 0) = 1 → E0 g YX12_rests d 61 [(0, .ref 130), (1, .int i1), (2, .int i2), (3, .int i3), (4, .int i4), (5, .int 0), (6, .int 0)] [] M2 P)
    (k4 : ¬ (s1 = 0) → i4 < (-1) → (mi M2 130 0) = 1 → P (some (.int 0)) M2)
    (k5 : ¬ (s1 = 0) → ¬ (i4 < (-1)) → ¬ (mi M3 130 0) = 1 → E0 g YX12_rests d 61 [(0, .ref 130), (1, .int i1), (2, .int i2), (3, .int i3), (4, .int i4), (5, .int 0), (6, .int 0)] [] M3 P)
    (k6 : ¬ (s1 = 0) → ¬ (i4 < (-1)) → (mi M3 130 0) = 1 → P (some (.int 0)) M3) :
    E0 g YX12_rests d 28 [(0, .ref 130), (1, .int i1), (2, .int i2), (3, .int i3), (4, .int i4)] [.int s1, .ref s0] M P := by
  have f1 : ob M 130 12 := L.s rfl (by decide)
  subst qM1 qM2 qM3
  refine x_if_eq 41 dX12_rests_28 (by decide) (fun c1 => ?_) (fun c1 => ?_)
  · refine x_iconst (v := 1) dX12_rests_41 (by decide) ?_
    refine x_putI fdX12_138 rfl (Or.inl rfl) dX12_rests_42 h1.1 h1.2 rfl rfl ?_
    refine x_aload_n dX12_rests_45 0 rfl ?_
    refine x_getI fdX12_138 rfl dX12_rests_46 f1.1 f1.2 ?_
    refine x_iconst (v := 1) dX12_rests_49 (by decide) ?_
    refine x_ic_ne 55 dX12_rests_50 (by decide) (fun c2 => ?_) (fun c2 => ?_)
    · refine x_iconst (v := 0) dX12_rests_55 (by decide) ?_
      refine x_istore (lv1 := [(5, .int 0), (0, .ref 130), (1, .int i1), (2, .int i2), (3, .int i3), (4, .int i4)]) dX12_rests_56 (by decide) rfl ?_
      refine x_iconst (v := 0) dX12_rests_58 (by decide) ?_
      refine x_istore (lv1 := [(6, .int 0), (5, .int 0), (0, .ref 130), (1, .int i1), (2, .int i2), (3, .int i3), (4, .int i4)]) dX12_rests_59 (by decide) rfl ?_
      exact EX.sub [2, 3, 4, 5, 6, 1, 0] (k1 c1 c2) rfl
    · refine x_iconst (v := 0) dX12_rests_53 (by decide) ?_
      exact x_iret rfl dX12_rests_54 (Nat.le_refl _) (Nat.le_refl _) (k2 c1 c2)
  · refine x_iload dX12_rests_31 4 rfl ?_
    refine x_iconst (v := (-1)) dX12_rests_33 (by decide) ?_
    refine x_ic_lt 41 dX12_rests_34 (by decide) (fun c2 => ?_) (fun c2 => ?_)
    · refine x_iconst (v := 1) dX12_rests_41 (by decide) ?_
      refine x_putI fdX12_138 rfl (Or.inl rfl) dX12_rests_42 h1.1 h1.2 rfl rfl ?_
      refine x_aload_n dX12_rests_45 0 rfl ?_
      refine x_getI fdX12_138 rfl dX12_rests_46 f1.1 f1.2 ?_
      refine x_iconst (v := 1) dX12_rests_49 (by decide) ?_
      refine x_ic_ne 55 dX12_rests_50 (by decide) (fun c3 => ?_) (fun c3 => ?_)
      · refine x_iconst (v := 0) dX12_rests_55 (by decide) ?_
        refine x_istore (lv1 := [(5, .int 0), (0, .ref 130), (1, .int i1), (2, .int i2), (3, .int i3), (4, .int i4)]) dX12_rests_56 (by decide) rfl ?_
        refine x_iconst (v := 0) dX12_rests_58 (by decide) ?_
        refine x_istore (lv1 := [(6, .int 0), (5, .int 0), (0, .ref 130), (1, .int i1), (2, .int i2), (3, .int i3), (4, .int i4)]) dX12_rests_59 (by decide) rfl ?_
        exact EX.sub [2, 3, 4, 5, 6, 1, 0] (k3 c1 c2 c3) rfl
      · refine x_iconst (v := 0) dX12_rests_53 (by decide) ?_
        exact x_iret rfl dX12_rests_54 (Nat.le_refl _) (Nat.le_refl _) (k4 c1 c2 c3)
    · refine x_iconst (v := 0) dX12_rests_37 (by decide) ?_
      refine x_goto 42 dX12_rests_38 (by decide) ?_
      refine x_putI fdX12_138 rfl (Or.inl rfl) dX12_rests_42 h1.1 h1.2 rfl rfl ?_
      refine x_aload_n dX12_rests_45 0 rfl ?_
      refine x_getI fdX12_138 rfl dX12_rests_46 f1.1 f1.2 ?_
      refine x_iconst (v := 1) dX12_rests_49 (by decide) ?_
      refine x_ic_ne 55 dX12_rests_50 (by decide) (fun c3 => ?_) (fun c3 => ?_)
      · refine x_iconst (v := 0) dX12_rests_55 (by decide) ?_
        refine x_istore (lv1 := [(5, .int 0), (0, .ref 130), (1, .int i1), (2, .int i2), (3, .int i3), (4, .int i4)]) dX12_rests_56 (by decide) rfl ?_
        refine x_iconst (v := 0) dX12_rests_58 (by decide) ?_
        refine x_istore (lv1 := [(6, .int 0), (5, .int 0), (0, .ref 130), (1, .int i1), (2, .int i2), (3, .int i3), (4, .int i4)]) dX12_rests_59 (by decide) rfl ?_
        exact EX.sub [2, 3, 4, 5, 6, 1, 0] (k5 c1 c2 c3) rfl
      · refine x_iconst (v := 0) dX12_rests_53 (by decide) ?_
        exact x_iret rfl dX12_rests_54 (Nat.le_refl _) (Nat.le_refl _) (k6 c1 c2 c3)
set_option maxRecDepth 8000 in
theorem qX12_rests_61 {g : GG} {d : Nat} {M : MM} {P : Option Value → MM → Prop} {i1 : Int32} {i2 : Int32} {i3 : Int32} {i4 : Int32} {i5 : Int32} {i6 : Int32} {M1 : MM} {M2 : MM} {la lb pa pb rl : Nat} (L : Lay M la lb pa pb rl)
    (qM1 : M1 = wi M 130 0 1)
    (qM2 : M2 = wi M 130 0 0)
    (k1 : 4 ≤ i6 → ¬ i4 = (-1) → ¬ i4 = (-1) → P (some (.int 0)) M1)
    (k2 : 4 ≤ i6 → ¬ i4 = (-1) → i4 = (-1) → P (some (.int i5)) M1)
    (k3 : 4 ≤ i6 → i4 = (-1) → ¬ i4 = (-1) → P (some (.int 0)) M2)
    (k4 : 4 ≤ i6 → i4 = (-1) → i4 = (-1) → P (some (.int i5)) M2)
    (k5 : ¬ (4 ≤ i6) → K0 g YX12_rests YX12_getsBy d 91 [.int i1, .int i2, .int i3, .int (1 - (i6 / 2)), .int (i6 - i6 / 2 * 2)] [(0, .ref 130), (1, .int i1), (2, .int i2), (3, .int i3), (4, .int i4), (5, .int i5), (6, .int i6), (7, .int (i6 / 2)), (8, .int (i6 - i6 / 2 * 2))] [] M P) :
    E0 g YX12_rests d 61 [(0, .ref 130), (1, .int i1), (2, .int i2), (3, .int i3), (4, .int i4), (5, .int i5), (6, .int i6)] [] M P := by
  have f1 : ob M 130 12 := L.s rfl (by decide)
  subst qM1 qM2
  refine x_iload dX12_rests_61 6 rfl ?_
  refine x_iconst (v := 4) dX12_rests_63 (by decide) ?_
  refine x_ic_ge 151 dX12_rests_64 (by decide) (fun c1 => ?_) (fun c1 => ?_)
  · refine x_aload_n dX12_rests_151 0 rfl ?_
    refine x_iload dX12_rests_152 4 rfl ?_
    refine x_iconst (v := (-1)) dX12_rests_154 (by decide) ?_
    refine x_ic_ne 162 dX12_rests_155 (by decide) (fun c2 => ?_) (fun c2 => ?_)
    · refine x_iconst (v := 1) dX12_rests_162 (by decide) ?_
      refine x_putI fdX12_138 rfl (Or.inl rfl) dX12_rests_163 f1.1 f1.2 rfl rfl ?_
      refine x_iload dX12_rests_166 4 rfl ?_
      refine x_iconst (v := (-1)) dX12_rests_168 (by decide) ?_
      refine x_ic_ne 177 dX12_rests_169 (by decide) (fun c3 => ?_) (fun c3 => ?_)
      · refine x_iconst (v := 0) dX12_rests_177 (by decide) ?_
        exact x_iret rfl dX12_rests_178 (Nat.le_refl _) (Nat.le_refl _) (k1 c1 c2 c3)
      · refine x_iload dX12_rests_172 5 rfl ?_
        refine x_goto 178 dX12_rests_174 (by decide) ?_
        exact x_iret rfl dX12_rests_178 (Nat.le_refl _) (Nat.le_refl _) (k2 c1 c2 c3)
    · refine x_iconst (v := 0) dX12_rests_158 (by decide) ?_
      refine x_goto 163 dX12_rests_159 (by decide) ?_
      refine x_putI fdX12_138 rfl (Or.inl rfl) dX12_rests_163 f1.1 f1.2 rfl rfl ?_
      refine x_iload dX12_rests_166 4 rfl ?_
      refine x_iconst (v := (-1)) dX12_rests_168 (by decide) ?_
      refine x_ic_ne 177 dX12_rests_169 (by decide) (fun c3 => ?_) (fun c3 => ?_)
      · refine x_iconst (v := 0) dX12_rests_177 (by decide) ?_
        exact x_iret rfl dX12_rests_178 (Nat.le_refl _) (Nat.le_refl _) (k3 c1 c2 c3)
      · refine x_iload dX12_rests_172 5 rfl ?_
        refine x_goto 178 dX12_rests_174 (by decide) ?_
        exact x_iret rfl dX12_rests_178 (Nat.le_refl _) (Nat.le_refl _) (k4 c1 c2 c3)
  · refine x_iload dX12_rests_67 6 rfl ?_
    refine x_iconst (v := 2) dX12_rests_69 (by decide) ?_
    refine x_idiv dX12_rests_70 (by decide) ?_
    refine x_istore (lv1 := [(7, .int (i6 / 2)), (0, .ref 130), (1, .int i1), (2, .int i2), (3, .int i3), (4, .int i4), (5, .int i5), (6, .int i6)]) dX12_rests_71 (by decide) rfl ?_
    refine x_iload dX12_rests_73 7 rfl ?_
    refine x_iconst (v := 2) dX12_rests_75 (by decide) ?_
    refine x_irem dX12_rests_76 (by decide) ?_
    refine x_istore (lv1 := [(8, .int (i6 - i6 / 2 * 2)), (7, .int (i6 / 2)), (0, .ref 130), (1, .int i1), (2, .int i2), (3, .int i3), (4, .int i4), (5, .int i5), (6, .int i6)]) dX12_rests_77 (by decide) rfl ?_
    refine x_iload_n dX12_rests_79 3 rfl ?_
    refine x_iload_n dX12_rests_80 4 rfl ?_
    refine x_iload_n dX12_rests_81 5 rfl ?_
    refine x_iconst (v := 1) dX12_rests_82 (by decide) ?_
    refine x_iload dX12_rests_83 1 rfl ?_
    refine x_isub dX12_rests_85 ?_
    refine x_iload dX12_rests_86 0 rfl ?_
    refine EX.sub [2, 3, 4, 5, 6, 7, 8, 1, 0] (K0.s (As := [.int i1, .int i2, .int i3, .int (1 - (i6 / 2)), .int (i6 - i6 / 2 * 2)]) (st := []) csX12_426 dX12_rests_88 rfl rfl (Nat.le_of_ble_eq_true rfl) (k5 c1)) rfl
set_option maxRecDepth 8000 in
theorem qX12_rests_91 {g : GG} {d : Nat} {M : MM} {P : Option Value → MM → Prop} {i1 : Int32} {i2 : Int32} {i3 : Int32} {i4 : Int32} {i5 : Int32} {i6 : Int32} {i7 : Int32} {i8 : Int32} {s0 : Int32}
    (k1 : K0 g YX12_rests YX12_getsBy d 101 [.int i1, .int i2, .int i3, .int i7, .int i8] [(0, .ref 130), (1, .int i1), (2, .int i2), (3, .int i3), (4, .int i4), (5, .int i5), (6, .int i6), (7, .int i7), (8, .int i8)] [.int s0] M P) :
    E0 g YX12_rests d 91 [(0, .ref 130), (1, .int i1), (2, .int i2), (3, .int i3), (4, .int i4), (5, .int i5), (6, .int i6), (7, .int i7), (8, .int i8)] [.int s0] M P := by
  refine x_iload_n dX12_rests_91 1 rfl ?_
  refine x_iload_n dX12_rests_92 2 rfl ?_
  refine x_iload_n dX12_rests_93 3 rfl ?_
  refine x_iload dX12_rests_94 7 rfl ?_
  refine x_iload dX12_rests_96 8 rfl ?_
  refine EX.sub [0, 1, 2, 3, 4, 5, 6, 7, 8] (K0.s (As := [.int i1, .int i2, .int i3, .int i7, .int i8]) (st := [.int s0]) csX12_426 dX12_rests_98 rfl rfl (Nat.le_of_ble_eq_true rfl) (k1)) rfl
set_option maxRecDepth 8000 in
theorem qX12_rests_101 {g : GG} {d : Nat} {M : MM} {P : Option Value → MM → Prop} {i1 : Int32} {i2 : Int32} {i3 : Int32} {i4 : Int32} {i5 : Int32} {i6 : Int32} {i7 : Int32} {i8 : Int32} {s0 : Int32} {s1 : Int32}
    (k1 : s1 < s0 → E0 g YX12_rests d 61 [(0, .ref 130), (1, .int i1), (2, .int i2), (3, .int i3), (4, .int i4), (5, .int i5), (6, .int (i6 + 1))] [] M P)
    (k2 : ¬ (s1 < s0) → K0 g YX12_rests YX12_getsBy d 116 [.int i1, .int i2, .int i3, .int (1 - i8), .int i7] [(0, .ref 130), (1, .int i1), (2, .int i2), (3, .int i3), (4, .int i4), (5, .int i5), (6, .int i6), (7, .int i7), (8, .int i8)] [] M P) :
    E0 g YX12_rests d 101 [(0, .ref 130), (1, .int i1), (2, .int i2), (3, .int i3), (4, .int i4), (5, .int i5), (6, .int i6), (7, .int i7), (8, .int i8)] [.int s1, .int s0] M P := by
  refine x_ic_gt 145 dX12_rests_101 (by decide) (fun c1 => ?_) (fun c1 => ?_)
  · refine x_iinc (v := (i6 + 1)) (lv1 := [(6, .int (i6 + 1)), (0, .ref 130), (1, .int i1), (2, .int i2), (3, .int i3), (4, .int i4), (5, .int i5), (7, .int i7), (8, .int i8)]) dX12_rests_145 6 rfl rfl (by decide) rfl ?_
    refine x_goto 61 dX12_rests_148 (by decide) ?_
    exact EX.sub [1, 2, 3, 4, 5, 6, 0] (k1 c1) rfl
  · refine x_iload_n dX12_rests_104 1 rfl ?_
    refine x_iload_n dX12_rests_105 2 rfl ?_
    refine x_iload_n dX12_rests_106 3 rfl ?_
    refine x_iconst (v := 1) dX12_rests_107 (by decide) ?_
    refine x_iload dX12_rests_108 8 rfl ?_
    refine x_isub dX12_rests_110 ?_
    refine x_iload dX12_rests_111 7 rfl ?_
    refine EX.sub [0, 1, 2, 3, 4, 5, 6, 7, 8] (K0.s (As := [.int i1, .int i2, .int i3, .int (1 - i8), .int i7]) (st := []) csX12_426 dX12_rests_113 rfl rfl (Nat.le_of_ble_eq_true rfl) (k2 c1)) rfl
set_option maxRecDepth 8000 in
theorem qX12_rests_116 {g : GG} {d : Nat} {M : MM} {P : Option Value → MM → Prop} {i1 : Int32} {i2 : Int32} {i3 : Int32} {i4 : Int32} {i5 : Int32} {i6 : Int32} {i7 : Int32} {i8 : Int32} {s0 : Int32}
    (k1 : K0 g YX12_rests YX12_getsBy d 126 [.int i1, .int i2, .int i3, .int i8, .int i7] [(0, .ref 130), (1, .int i1), (2, .int i2), (3, .int i3), (4, .int i4), (5, .int i5), (6, .int i6)] [.int s0] M P) :
    E0 g YX12_rests d 116 [(0, .ref 130), (1, .int i1), (2, .int i2), (3, .int i3), (4, .int i4), (5, .int i5), (6, .int i6), (7, .int i7), (8, .int i8)] [.int s0] M P := by
  refine x_iload_n dX12_rests_116 1 rfl ?_
  refine x_iload_n dX12_rests_117 2 rfl ?_
  refine x_iload_n dX12_rests_118 3 rfl ?_
  refine x_iload dX12_rests_119 8 rfl ?_
  refine x_iload dX12_rests_121 7 rfl ?_
  refine EX.sub [0, 1, 2, 3, 4, 5, 6] (K0.s (As := [.int i1, .int i2, .int i3, .int i8, .int i7]) (st := [.int s0]) csX12_426 dX12_rests_123 rfl rfl (Nat.le_of_ble_eq_true rfl) (k1)) rfl
set_option maxRecDepth 8000 in
theorem qX12_rests_126 {g : GG} {d : Nat} {M : MM} {P : Option Value → MM → Prop} {i1 : Int32} {i2 : Int32} {i3 : Int32} {i4 : Int32} {i5 : Int32} {i6 : Int32} {s0 : Int32} {s1 : Int32}
    (k1 : s0 ≤ s1 → ¬ i5 = i4 → E0 g YX12_rests d 61 [(0, .ref 130), (1, .int i1), (2, .int i2), (3, .int i3), (4, .int i4), (5, .int (i5 + 1)), (6, .int (i6 + 1))] [] M P)
    (k2 : s0 ≤ s1 → i5 = i4 → P (some (.int i6)) M)
    (k3 : ¬ (s0 ≤ s1) → E0 g YX12_rests d 61 [(0, .ref 130), (1, .int i1), (2, .int i2), (3, .int i3), (4, .int i4), (5, .int i5), (6, .int (i6 + 1))] [] M P) :
    E0 g YX12_rests d 126 [(0, .ref 130), (1, .int i1), (2, .int i2), (3, .int i3), (4, .int i4), (5, .int i5), (6, .int i6)] [.int s1, .int s0] M P := by
  refine x_ic_le 132 dX12_rests_126 (by decide) (fun c1 => ?_) (fun c1 => ?_)
  · refine x_iload dX12_rests_132 5 rfl ?_
    refine x_iload dX12_rests_134 4 rfl ?_
    refine x_ic_ne 142 dX12_rests_136 (by decide) (fun c2 => ?_) (fun c2 => ?_)
    · refine x_iinc (v := (i5 + 1)) (lv1 := [(5, .int (i5 + 1)), (0, .ref 130), (1, .int i1), (2, .int i2), (3, .int i3), (4, .int i4), (6, .int i6)]) dX12_rests_142 5 rfl rfl (by decide) rfl ?_
      refine x_iinc (v := (i6 + 1)) (lv1 := [(6, .int (i6 + 1)), (5, .int (i5 + 1)), (0, .ref 130), (1, .int i1), (2, .int i2), (3, .int i3), (4, .int i4)]) dX12_rests_145 6 rfl rfl (by decide) rfl ?_
      refine x_goto 61 dX12_rests_148 (by decide) ?_
      exact EX.sub [2, 3, 4, 5, 6, 1, 0] (k1 c1 c2) rfl
    · refine x_iload dX12_rests_139 6 rfl ?_
      exact x_iret rfl dX12_rests_141 (Nat.le_refl _) (Nat.le_refl _) (k2 c1 c2)
  · refine x_goto 145 dX12_rests_129 (by decide) ?_
    refine x_iinc (v := (i6 + 1)) (lv1 := [(6, .int (i6 + 1)), (0, .ref 130), (1, .int i1), (2, .int i2), (3, .int i3), (4, .int i4), (5, .int i5)]) dX12_rests_145 6 rfl rfl (by decide) rfl ?_
    refine x_goto 61 dX12_rests_148 (by decide) ?_
    exact EX.sub [1, 2, 3, 4, 5, 6, 0] (k3 c1) rfl
set_option maxRecDepth 8000 in
theorem qX12_share_0 {g : GG} {d : Nat} {M : MM} {P : Option Value → MM → Prop} {i1 : Int32} {M1 : MM} {la lb pa pb rl : Nat} (L : Lay M la lb pa pb rl)
    (qM1 : M1 = wi M 130 0 0)
    (k1 : K0 g YX12_share YX12_isHall d 10 [.ref 130, .int i1] [(0, .ref 130), (1, .int i1)] [] M1 P) :
    E0 g YX12_share d 0 [(0, .ref 130), (1, .int i1)] [] M P := by
  have f1 : ob M 130 12 := L.s rfl (by decide)
  subst qM1
  refine x_aload_n dX12_share_0 0 rfl ?_
  refine x_iconst (v := 0) dX12_share_1 (by decide) ?_
  refine x_putI fdX12_138 rfl (Or.inl rfl) dX12_share_2 f1.1 f1.2 rfl rfl ?_
  refine x_aload_n dX12_share_5 0 rfl ?_
  refine x_iload_n dX12_share_6 1 rfl ?_
  refine EX.sub [0, 1] (K0.v (As := [.int i1]) (st := []) cvX12_350 dX12_share_7 rfl rfl f1 rfl (Nat.le_of_ble_eq_true rfl) (k1)) rfl
set_option maxRecDepth 8000 in
theorem qX12_share_10 {g : GG} {d : Nat} {M : MM} {P : Option Value → MM → Prop} {i1 : Int32} {s0 : Int32} {la lb pa pb rl : Nat} (L : Lay M la lb pa pb rl)
    (k1 : ¬ s0 = 0 → K0 g YX12_share YX12_inDrawers d 20 [.ref 130] [(0, .ref 130), (1, .int i1)] [.ref 130] M P)
    (k2 : s0 = 0 → P (some (.int (-1))) M) :
    E0 g YX12_share d 10 [(0, .ref 130), (1, .int i1)] [.int s0] M P := by
  have f1 : ob M 130 12 := L.s rfl (by decide)
  refine x_if_ne 15 dX12_share_10 (by decide) (fun c1 => ?_) (fun c1 => ?_)
  · refine x_aload_n dX12_share_15 0 rfl ?_
    refine x_aload_n dX12_share_16 0 rfl ?_
    refine EX.sub [0, 1] (K0.v (As := []) (st := [.ref 130]) cvX12_417 dX12_share_17 rfl rfl f1 rfl (Nat.le_of_ble_eq_true rfl) (k1 c1)) rfl
  · refine x_iconst (v := (-1)) dX12_share_13 (by decide) ?_
    exact x_iret rfl dX12_share_14 (Nat.le_refl _) (Nat.le_refl _) (k2 c1)
set_option maxRecDepth 8000 in
theorem qX12_share_20 {g : GG} {d : Nat} {M : MM} {P : Option Value → MM → Prop} {i1 : Int32} {s0 : Nat} {s1 : Int32}
    (h1 : ob M s0 12)
    (k1 : K0 g YX12_share YX12_minutesOf d 23 [.ref s0, .int s1] [(0, .ref 130), (1, .int i1)] [] M P) :
    E0 g YX12_share d 20 [(0, .ref 130), (1, .int i1)] [.int s1, .ref s0] M P := by
  refine EX.sub [0, 1] (K0.v (As := [.int s1]) (st := []) cvX12_369 dX12_share_20 rfl rfl h1 rfl (Nat.le_of_ble_eq_true rfl) (k1)) rfl
set_option maxRecDepth 8000 in
theorem qX12_share_23 {g : GG} {d : Nat} {M : MM} {P : Option Value → MM → Prop} {i1 : Int32} {s0 : Int32} {la lb pa pb rl : Nat} (L : Lay M la lb pa pb rl)
    (k1 : ¬ s0 = 0 → K0 g YX12_share YX12_drawerOf d 41 [.ref 130, .int i1] [(2, .int s0)] [.ref 130, .int 1000] M P)
    (k2 : s0 = 0 → P (some (.int 0)) M) :
    E0 g YX12_share d 23 [(0, .ref 130), (1, .int i1)] [.int s0] M P := by
  have f1 : ob M 130 12 := L.s rfl (by decide)
  refine x_istore_n (lv1 := [(2, .int s0), (0, .ref 130), (1, .int i1)]) dX12_share_23 (by decide) rfl ?_
  refine x_iload_n dX12_share_24 0 rfl ?_
  refine x_if_ne 32 dX12_share_25 (by decide) (fun c1 => ?_) (fun c1 => ?_)
  · refine x_sipush (v := 1000) dX12_share_32 (by decide) ?_
    refine x_aload_n dX12_share_35 1 rfl ?_
    refine x_aload_n dX12_share_36 1 rfl ?_
    refine x_iload_n dX12_share_37 2 rfl ?_
    refine EX.sub [0] (K0.v (As := [.int i1]) (st := [.ref 130, .int 1000]) cvX12_353 dX12_share_38 rfl rfl f1 rfl (Nat.le_of_ble_eq_true rfl) (k1 c1)) rfl
  · refine x_iconst (v := 0) dX12_share_28 (by decide) ?_
    refine x_goto 47 dX12_share_29 (by decide) ?_
    exact x_iret rfl dX12_share_47 (Nat.le_refl _) (Nat.le_refl _) (k2 c1)
set_option maxRecDepth 8000 in
theorem qX12_share_41 {g : GG} {d : Nat} {M : MM} {P : Option Value → MM → Prop} {i2 : Int32} {s0 : Int32} {s1 : Nat} {s2 : Int32}
    (h1 : ob M s1 12)
    (k1 : K0 g YX12_share YX12_minutesOf d 44 [.ref s1, .int s2] [(2, .int i2)] [.int s0] M P) :
    E0 g YX12_share d 41 [(2, .int i2)] [.int s2, .ref s1, .int s0] M P := by
  refine EX.sub [0] (K0.v (As := [.int s2]) (st := [.int s0]) cvX12_369 dX12_share_41 rfl rfl h1 rfl (Nat.le_of_ble_eq_true rfl) (k1)) rfl
set_option maxRecDepth 8000 in
theorem qX12_share_44 {g : GG} {d : Nat} {M : MM} {P : Option Value → MM → Prop} {i2 : Int32} {s0 : Int32} {s1 : Int32}
    (h1 : ¬ i2 = 0)
    (k1 : P (some (.int ((s0 * s1) / i2))) M) :
    E0 g YX12_share d 44 [(2, .int i2)] [.int s1, .int s0] M P := by
  refine x_imul dX12_share_44 ?_
  refine x_iload_n dX12_share_45 0 rfl ?_
  refine x_idiv dX12_share_46 (h1) ?_
  exact x_iret rfl dX12_share_47 (Nat.le_refl _) (Nat.le_refl _) (k1)
set_option maxRecDepth 8000 in
theorem qX12_draws_0 {g : GG} {d : Nat} {M : MM} {P : Option Value → MM → Prop} {i1 : Int32} {M1 : MM} {la lb pa pb rl : Nat} (L : Lay M la lb pa pb rl)
    (qM1 : M1 = wj M 130 57 ((((mj M 130 57) * (1103515245)) + (12345)) - (((mj M 130 57) * (1103515245)) + (12345)) / (2147483648) * (2147483648)))
    (h1 : ¬ (i1 : Int32).toInt64 = 0)
    (k1 : P (some (.int ((((mj M1 130 57) / (65536)) - ((mj M1 130 57) / (65536)) / (i1 : Int32).toInt64 * (i1 : Int32).toInt64) : Int64).toInt32)) M1) :
    E0 g YX12_draws d 0 [(0, .ref 130), (1, .int i1)] [] M P := by
  have f1 : ob M 130 12 := L.s rfl (by decide)
  subst qM1
  refine x_aload_n dX12_draws_0 0 rfl ?_
  refine x_aload_n dX12_draws_1 0 rfl ?_
  refine x_getJ fdX12_430 rfl dX12_draws_2 f1.1 f1.2 ?_
  refine x_ldc2 dX12_draws_5 kcX12_433 ?_
  refine x_lmul dX12_draws_8 ?_
  refine x_ldc2 dX12_draws_9 kcX12_435 ?_
  refine x_ladd dX12_draws_12 ?_
  refine x_ldc2 dX12_draws_13 kcX12_437 ?_
  refine x_lrem dX12_draws_16 (by decide) ?_
  refine x_putJ fdX12_430 rfl (Or.inl rfl) dX12_draws_17 f1.1 f1.2 ?_
  refine x_aload_n dX12_draws_20 0 rfl ?_
  refine x_getJ fdX12_430 rfl dX12_draws_21 f1.1 f1.2 ?_
  refine x_ldc2 dX12_draws_24 kcX12_439 ?_
  refine x_ldiv dX12_draws_27 (by decide) ?_
  refine x_iload_n dX12_draws_28 1 rfl ?_
  refine x_i2l dX12_draws_29 ?_
  refine x_lrem dX12_draws_30 (h1) ?_
  refine x_l2i dX12_draws_31 ?_
  exact x_iret rfl dX12_draws_32 (Nat.le_refl _) (Nat.le_refl _) (k1)
set_option maxRecDepth 8000 in
theorem qX12_nth_0 {g : GG} {d : Nat} {M : MM} {P : Option Value → MM → Prop} {i1 : Int32} {i2 : Int32}
    (k1 : E0 g YX12_nth d 5 [(1, .int i1), (3, .int 0), (4, .int i2)] [] M P) :
    E0 g YX12_nth d 0 [(1, .int i1), (2, .int i2)] [] M P := by
  refine x_iconst (v := 0) dX12_nth_0 (by decide) ?_
  refine x_istore_n (lv1 := [(3, .int 0), (1, .int i1), (2, .int i2)]) dX12_nth_1 (by decide) rfl ?_
  refine x_iload_n dX12_nth_2 2 rfl ?_
  refine x_istore (lv1 := [(4, .int i2), (3, .int 0), (1, .int i1), (2, .int i2)]) dX12_nth_3 (by decide) rfl ?_
  exact EX.sub [2, 1, 0] k1 rfl
set_option maxRecDepth 8000 in
theorem qX12_nth_5 {g : GG} {d : Nat} {M : MM} {P : Option Value → MM → Prop} {i1 : Int32} {i3 : Int32} {i4 : Int32}
    (k1 : ((i1 >>> (i3 &&& 31)) &&& 1) = 0 → E0 g YX12_nth d 5 [(1, .int i1), (3, .int (i3 + 1)), (4, .int (i4 - ((i1 >>> (i3 &&& 31)) &&& 1)))] [] M P)
    (k2 : ¬ (((i1 >>> (i3 &&& 31)) &&& 1) = 0) → i4 ≤ 0 → P (some (.int i3)) M)
    (k3 : ¬ (((i1 >>> (i3 &&& 31)) &&& 1) = 0) → ¬ (i4 ≤ 0) → E0 g YX12_nth d 5 [(1, .int i1), (3, .int (i3 + 1)), (4, .int (i4 - ((i1 >>> (i3 &&& 31)) &&& 1)))] [] M P) :
    E0 g YX12_nth d 5 [(1, .int i1), (3, .int i3), (4, .int i4)] [] M P := by
  refine x_iload_n dX12_nth_5 0 rfl ?_
  refine x_iload_n dX12_nth_6 1 rfl ?_
  refine x_ishr dX12_nth_7 ?_
  refine x_iconst (v := 1) dX12_nth_8 (by decide) ?_
  refine x_iand dX12_nth_9 ?_
  refine x_if_eq 18 dX12_nth_10 (by decide) (fun c1 => ?_) (fun c1 => ?_)
  · refine x_iload dX12_nth_18 2 rfl ?_
    refine x_iload_n dX12_nth_20 0 rfl ?_
    refine x_iload_n dX12_nth_21 1 rfl ?_
    refine x_ishr dX12_nth_22 ?_
    refine x_iconst (v := 1) dX12_nth_23 (by decide) ?_
    refine x_iand dX12_nth_24 ?_
    refine x_isub dX12_nth_25 ?_
    refine x_istore (lv1 := [(4, .int (i4 - ((i1 >>> (i3 &&& 31)) &&& 1))), (1, .int i1), (3, .int i3)]) dX12_nth_26 (by decide) rfl ?_
    refine x_iinc (v := (i3 + 1)) (lv1 := [(3, .int (i3 + 1)), (4, .int (i4 - ((i1 >>> (i3 &&& 31)) &&& 1))), (1, .int i1)]) dX12_nth_28 2 rfl rfl (by decide) rfl ?_
    refine x_goto 5 dX12_nth_31 (by decide) ?_
    exact EX.sub [2, 0, 1] (k1 c1) rfl
  · refine x_iload dX12_nth_13 2 rfl ?_
    refine x_if_le 34 dX12_nth_15 (by decide) (fun c2 => ?_) (fun c2 => ?_)
    · refine x_iload_n dX12_nth_34 1 rfl ?_
      exact x_iret rfl dX12_nth_35 (Nat.le_refl _) (Nat.le_refl _) (k2 c1 c2)
    · refine x_iload dX12_nth_18 2 rfl ?_
      refine x_iload_n dX12_nth_20 0 rfl ?_
      refine x_iload_n dX12_nth_21 1 rfl ?_
      refine x_ishr dX12_nth_22 ?_
      refine x_iconst (v := 1) dX12_nth_23 (by decide) ?_
      refine x_iand dX12_nth_24 ?_
      refine x_isub dX12_nth_25 ?_
      refine x_istore (lv1 := [(4, .int (i4 - ((i1 >>> (i3 &&& 31)) &&& 1))), (1, .int i1), (3, .int i3)]) dX12_nth_26 (by decide) rfl ?_
      refine x_iinc (v := (i3 + 1)) (lv1 := [(3, .int (i3 + 1)), (4, .int (i4 - ((i1 >>> (i3 &&& 31)) &&& 1))), (1, .int i1)]) dX12_nth_28 2 rfl rfl (by decide) rfl ?_
      refine x_goto 5 dX12_nth_31 (by decide) ?_
      exact EX.sub [2, 0, 1] (k3 c1 c2) rfl
set_option maxRecDepth 8000 in
theorem qX12_givesSome_0 {g : GG} {d : Nat} {M : MM} {P : Option Value → MM → Prop}  {la lb pa pb rl : Nat} (L : Lay M la lb pa pb rl)
    (k1 : K0 g YX12_givesSome YX12_inDrawers d 4 [.ref 130] [(0, .ref 130)] [] M P) :
    E0 g YX12_givesSome d 0 [(0, .ref 130)] [] M P := by
  have f1 : ob M 130 12 := L.s rfl (by decide)
  refine x_aload_n dX12_givesSome_0 0 rfl ?_
  refine EX.sub [0] (K0.v (As := []) (st := []) cvX12_417 dX12_givesSome_1 rfl rfl f1 rfl (Nat.le_of_ble_eq_true rfl) (k1)) rfl
set_option maxRecDepth 8000 in
theorem qX12_givesSome_4 {g : GG} {d : Nat} {M : MM} {P : Option Value → MM → Prop} {s0 : Int32} {la lb pa pb rl : Nat} (L : Lay M la lb pa pb rl)
    (k1 : s0 = 0 → E0 g YX12_givesSome d 34 [] [] M P)
    (k2 : ¬ (s0 = 0) → K0 g YX12_givesSome YX12_draws d 14 [.ref 130, .int 4] [(0, .ref 130), (1, .int s0)] [] M P) :
    E0 g YX12_givesSome d 4 [(0, .ref 130)] [.int s0] M P := by
  have f1 : ob M 130 12 := L.s rfl (by decide)
  refine x_istore_n (lv1 := [(1, .int s0), (0, .ref 130)]) dX12_givesSome_4 (by decide) rfl ?_
  refine x_iload_n dX12_givesSome_5 0 rfl ?_
  refine x_if_eq 34 dX12_givesSome_6 (by decide) (fun c1 => ?_) (fun c1 => ?_)
  · exact EX.sub [] (k1 c1) rfl
  · refine x_aload_n dX12_givesSome_9 1 rfl ?_
    refine x_iconst (v := 4) dX12_givesSome_10 (by decide) ?_
    refine EX.sub [1, 0] (K0.v (As := [.int 4]) (st := []) cvX12_441 dX12_givesSome_11 rfl rfl f1 rfl (Nat.le_of_ble_eq_true rfl) (k2 c1)) rfl
set_option maxRecDepth 8000 in
theorem qX12_givesSome_14 {g : GG} {d : Nat} {M : MM} {P : Option Value → MM → Prop} {i1 : Int32} {s0 : Int32}
    (k1 : ¬ s0 = 0 → E0 g YX12_givesSome d 34 [] [] M P)
    (k2 : s0 = 0 → K0 g YX12_givesSome YX12_bits d 25 [.int i1] [] [.ref 130, .int i1, .ref 130, .ref 130] M P) :
    E0 g YX12_givesSome d 14 [(0, .ref 130), (1, .int i1)] [.int s0] M P := by
  refine x_if_ne 34 dX12_givesSome_14 (by decide) (fun c1 => ?_) (fun c1 => ?_)
  · exact EX.sub [] (k1 c1) rfl
  · refine x_aload_n dX12_givesSome_17 0 rfl ?_
    refine x_aload_n dX12_givesSome_18 0 rfl ?_
    refine x_iload_n dX12_givesSome_19 1 rfl ?_
    refine x_aload_n dX12_givesSome_20 0 rfl ?_
    refine x_iload_n dX12_givesSome_21 1 rfl ?_
    refine EX.sub [] (K0.s (As := [.int i1]) (st := [.ref 130, .int i1, .ref 130, .ref 130]) csX12_375 dX12_givesSome_22 rfl rfl (Nat.le_of_ble_eq_true rfl) (k2 c1)) rfl
set_option maxRecDepth 8000 in
theorem qX12_givesSome_25 {g : GG} {d : Nat} {M : MM} {P : Option Value → MM → Prop} {s0 : Nat} {s1 : Nat} {s2 : Int32} {s3 : Nat} {s4 : Int32}
    (h1 : ob M s3 12)
    (k1 : K0 g YX12_givesSome YX12_draws d 28 [.ref s3, .int s4] [] [.int s2, .ref s1, .ref s0] M P) :
    E0 g YX12_givesSome d 25 [] [.int s4, .ref s3, .int s2, .ref s1, .ref s0] M P := by
  refine EX.sub [] (K0.v (As := [.int s4]) (st := [.int s2, .ref s1, .ref s0]) cvX12_441 dX12_givesSome_25 rfl rfl h1 rfl (Nat.le_of_ble_eq_true rfl) (k1)) rfl
set_option maxRecDepth 8000 in
theorem qX12_givesSome_28 {g : GG} {d : Nat} {M : MM} {P : Option Value → MM → Prop} {s0 : Nat} {s1 : Nat} {s2 : Int32} {s3 : Int32}
    (h1 : ob M s1 12)
    (k1 : K0 g YX12_givesSome YX12_nth d 31 [.ref s1, .int s2, .int s3] [] [.ref s0] M P) :
    E0 g YX12_givesSome d 28 [] [.int s3, .int s2, .ref s1, .ref s0] M P := by
  refine EX.sub [] (K0.v (As := [.int s2, .int s3]) (st := [.ref s0]) cvX12_444 dX12_givesSome_28 rfl rfl h1 rfl (Nat.le_of_ble_eq_true rfl) (k1)) rfl
set_option maxRecDepth 8000 in
theorem qX12_givesSome_31 {g : GG} {d : Nat} {M : MM} {P : Option Value → MM → Prop} {s0 : Nat} {s1 : Int32}
    (h1 : ob M s0 12)
    (k1 : K0 g YX12_givesSome YX12_goesBack d 34 [.ref s0, .int s1] [] [] M P) :
    E0 g YX12_givesSome d 31 [] [.int s1, .ref s0] M P := by
  refine EX.sub [] (K0.v (As := [.int s1]) (st := []) cvX12_372 dX12_givesSome_31 rfl rfl h1 rfl (Nat.le_of_ble_eq_true rfl) (k1)) rfl
set_option maxRecDepth 8000 in
theorem qX12_givesSome_34 {g : GG} {d : Nat} {M : MM} {P : Option Value → MM → Prop} 
    (k1 : P none M) :
    E0 g YX12_givesSome d 34 [] [] M P := by
  exact x_vret rfl dX12_givesSome_34 (Nat.le_refl _) (Nat.le_refl _) (k1)
set_option maxRecDepth 8000 in
theorem qX12_tours_0 {g : GG} {d : Nat} {M : MM} {P : Option Value → MM → Prop} {i1 : Int32} {i2 : Int32} {i3 : Int32} {M1 : MM} {la lb pa pb rl : Nat} (L : Lay M la lb pa pb rl)
    (qM1 : M1 = wi M 130 0 0)
    (k1 : K0 g YX12_tours YX12_within d 13 [.int i1, .int 0, .int 9999] [(0, .ref 130), (1, .int i1), (2, .int i2), (3, .int i3)] [] M1 P) :
    E0 g YX12_tours d 0 [(0, .ref 130), (1, .int i1), (2, .int i2), (3, .int i3)] [] M P := by
  have f1 : ob M 130 12 := L.s rfl (by decide)
  subst qM1
  refine x_aload_n dX12_tours_0 0 rfl ?_
  refine x_iconst (v := 0) dX12_tours_1 (by decide) ?_
  refine x_putI fdX12_138 rfl (Or.inl rfl) dX12_tours_2 f1.1 f1.2 rfl rfl ?_
  refine x_iload_n dX12_tours_5 1 rfl ?_
  refine x_iconst (v := 0) dX12_tours_6 (by decide) ?_
  refine x_sipush (v := 9999) dX12_tours_7 (by decide) ?_
  refine EX.sub [0, 1, 2, 3] (K0.s (As := [.int i1, .int 0, .int 9999]) (st := []) csX12_253 dX12_tours_10 rfl rfl (Nat.le_of_ble_eq_true rfl) (k1)) rfl
set_option maxRecDepth 8000 in
theorem qX12_tours_13 {g : GG} {d : Nat} {M : MM} {P : Option Value → MM → Prop} {i1 : Int32} {i2 : Int32} {i3 : Int32} {s0 : Int32}
    (k1 : s0 = 0 → P (some (.int (-1))) M)
    (k2 : ¬ (s0 = 0) → K0 g YX12_tours YX12_within d 23 [.int i2, .int 1, .int 99] [(0, .ref 130), (1, .int i1), (2, .int i2), (3, .int i3)] [] M P) :
    E0 g YX12_tours d 13 [(0, .ref 130), (1, .int i1), (2, .int i2), (3, .int i3)] [.int s0] M P := by
  refine x_if_eq 35 dX12_tours_13 (by decide) (fun c1 => ?_) (fun c1 => ?_)
  · refine x_iconst (v := (-1)) dX12_tours_35 (by decide) ?_
    exact x_iret rfl dX12_tours_36 (Nat.le_refl _) (Nat.le_refl _) (k1 c1)
  · refine x_iload_n dX12_tours_16 2 rfl ?_
    refine x_iconst (v := 1) dX12_tours_17 (by decide) ?_
    refine x_bipush (v := 99) dX12_tours_18 (by decide) ?_
    refine EX.sub [0, 1, 2, 3] (K0.s (As := [.int i2, .int 1, .int 99]) (st := []) csX12_253 dX12_tours_20 rfl rfl (Nat.le_of_ble_eq_true rfl) (k2 c1)) rfl
set_option maxRecDepth 8000 in
theorem qX12_tours_23 {g : GG} {d : Nat} {M : MM} {P : Option Value → MM → Prop} {i1 : Int32} {i2 : Int32} {i3 : Int32} {s0 : Int32}
    (k1 : s0 = 0 → P (some (.int (-1))) M)
    (k2 : ¬ (s0 = 0) → K0 g YX12_tours YX12_within d 32 [.int i3, .int 0, .int 2] [(0, .ref 130), (1, .int i1), (2, .int i2), (3, .int i3)] [] M P) :
    E0 g YX12_tours d 23 [(0, .ref 130), (1, .int i1), (2, .int i2), (3, .int i3)] [.int s0] M P := by
  refine x_if_eq 35 dX12_tours_23 (by decide) (fun c1 => ?_) (fun c1 => ?_)
  · refine x_iconst (v := (-1)) dX12_tours_35 (by decide) ?_
    exact x_iret rfl dX12_tours_36 (Nat.le_refl _) (Nat.le_refl _) (k1 c1)
  · refine x_iload_n dX12_tours_26 3 rfl ?_
    refine x_iconst (v := 0) dX12_tours_27 (by decide) ?_
    refine x_iconst (v := 2) dX12_tours_28 (by decide) ?_
    refine EX.sub [0, 1, 2, 3] (K0.s (As := [.int i3, .int 0, .int 2]) (st := []) csX12_253 dX12_tours_29 rfl rfl (Nat.le_of_ble_eq_true rfl) (k2 c1)) rfl
set_option maxRecDepth 8000 in
theorem qX12_tours_32 {g : GG} {d : Nat} {M : MM} {P : Option Value → MM → Prop} {i1 : Int32} {i2 : Int32} {i3 : Int32} {s0 : Int32} {M1 : MM} {la lb pa pb rl : Nat} (L : Lay M la lb pa pb rl)
    (qM1 : M1 = wj M 130 57 (i1 : Int32).toInt64)
    (k1 : ¬ s0 = 0 → K0 g YX12_tours YX12_copies d 56 [.ref 162, .int 0, .ref 164, .int 0] [(0, .ref 130), (2, .int i2), (3, .int i3)] [] M1 P)
    (k2 : s0 = 0 → P (some (.int (-1))) M) :
    E0 g YX12_tours d 32 [(0, .ref 130), (1, .int i1), (2, .int i2), (3, .int i3)] [.int s0] M P := by
  have f1 : ob M 130 12 := L.s rfl (by decide)
  have f2 : mr M 130 43 = some 162 := L.r 157 rfl
  have f3 : mr M 130 45 = some 164 := L.r 159 rfl
  subst qM1
  refine x_if_ne 37 dX12_tours_32 (by decide) (fun c1 => ?_) (fun c1 => ?_)
  · refine x_aload_n dX12_tours_37 0 rfl ?_
    refine x_iload_n dX12_tours_38 1 rfl ?_
    refine x_i2l dX12_tours_39 ?_
    refine x_putJ fdX12_430 rfl (Or.inl rfl) dX12_tours_40 f1.1 f1.2 ?_
    refine x_aload_n dX12_tours_43 0 rfl ?_
    refine x_getR fdX12_105 rfl dX12_tours_44 f1.1 f1.2 f2 ?_
    refine x_iconst (v := 0) dX12_tours_47 (by decide) ?_
    refine x_aload_n dX12_tours_48 0 rfl ?_
    refine x_getR fdX12_111 rfl dX12_tours_49 f1.1 f1.2 f3 ?_
    refine x_iconst (v := 0) dX12_tours_52 (by decide) ?_
    refine EX.sub [0, 2, 3] (K0.s (As := [.ref 162, .int 0, .ref 164, .int 0]) (st := []) csX12_359 dX12_tours_53 rfl rfl (Nat.le_of_ble_eq_true rfl) (k1 c1)) rfl
  · refine x_iconst (v := (-1)) dX12_tours_35 (by decide) ?_
    exact x_iret rfl dX12_tours_36 (Nat.le_refl _) (Nat.le_refl _) (k2 c1)
set_option maxRecDepth 8000 in
theorem qX12_tours_56 {g : GG} {d : Nat} {M : MM} {P : Option Value → MM → Prop} {i2 : Int32} {i3 : Int32}
    (k1 : E0 g YX12_tours d 65 [(0, .ref 130), (2, .int i2), (3, .int i3), (4, .int 0), (5, .int 0), (6, .int 0)] [] M P) :
    E0 g YX12_tours d 56 [(0, .ref 130), (2, .int i2), (3, .int i3)] [] M P := by
  refine x_iconst (v := 0) dX12_tours_56 (by decide) ?_
  refine x_istore (lv1 := [(4, .int 0), (0, .ref 130), (2, .int i2), (3, .int i3)]) dX12_tours_57 (by decide) rfl ?_
  refine x_iconst (v := 0) dX12_tours_59 (by decide) ?_
  refine x_istore (lv1 := [(5, .int 0), (4, .int 0), (0, .ref 130), (2, .int i2), (3, .int i3)]) dX12_tours_60 (by decide) rfl ?_
  refine x_iconst (v := 0) dX12_tours_62 (by decide) ?_
  refine x_istore (lv1 := [(6, .int 0), (5, .int 0), (4, .int 0), (0, .ref 130), (2, .int i2), (3, .int i3)]) dX12_tours_63 (by decide) rfl ?_
  exact EX.sub [3, 4, 5, 2, 1, 0] k1 rfl
set_option maxRecDepth 8000 in
theorem qX12_tours_65 {g : GG} {d : Nat} {M : MM} {P : Option Value → MM → Prop} {i2 : Int32} {i3 : Int32} {i4 : Int32} {i5 : Int32} {i6 : Int32} {la lb pa pb rl : Nat} (L : Lay M la lb pa pb rl)
    (k1 : i2 ≤ i6 → K0 g YX12_tours YX12_copies d 163 [.ref 164, .int 0, .ref 162, .int 0] [(3, .int i3), (4, .int i4), (5, .int i5), (6, .int (mi M 162 0))] [] M P)
    (k2 : ¬ (i2 ≤ i6) → (mi M 132 1) ≤ 0 → K0 g YX12_tours YX12_copies d 163 [.ref 164, .int 0, .ref 162, .int 0] [(3, .int i3), (4, .int i4), (5, .int i5), (6, .int (mi M 162 0))] [] M P)
    (k3 : ¬ (i2 ≤ i6) → ¬ ((mi M 132 1) ≤ 0) → K0 g YX12_tours YX12_draws d 91 [.ref 130, .int (mi M 132 1)] [(0, .ref 130), (2, .int i2), (3, .int i3), (4, .int i4), (5, .int i5), (6, .int i6)] [.ref 130] M P) :
    E0 g YX12_tours d 65 [(0, .ref 130), (2, .int i2), (3, .int i3), (4, .int i4), (5, .int i5), (6, .int i6)] [] M P := by
  have f1 : ob M 130 12 := L.s rfl (by decide)
  have f2 : mr M 130 43 = some 162 := L.r 157 rfl
  have f3 : ar M 162 1 19 := L.s rfl (by decide)
  have f4 : mr M 130 45 = some 164 := L.r 159 rfl
  have f5 : mr M 130 10 = some 132 := L.r 127 rfl
  have f6 : ar M 132 1 4 := L.s rfl (by decide)
  refine x_iload dX12_tours_65 5 rfl ?_
  refine x_iload_n dX12_tours_67 1 rfl ?_
  refine x_ic_ge 142 dX12_tours_68 (by decide) (fun c1 => ?_) (fun c1 => ?_)
  · refine x_aload_n dX12_tours_142 0 rfl ?_
    refine x_getR fdX12_105 rfl dX12_tours_143 f1.1 f1.2 f2 ?_
    refine x_iconst (v := 0) dX12_tours_146 (by decide) ?_
    refine x_iald dX12_tours_147 f3.1 f3.2 (by unfold vp_in; decide) ?_
    refine x_istore (lv1 := [(6, .int (mi M 162 0)), (0, .ref 130), (2, .int i2), (3, .int i3), (4, .int i4), (5, .int i5)]) dX12_tours_148 (by decide) rfl ?_
    refine x_aload_n dX12_tours_150 1 rfl ?_
    refine x_getR fdX12_111 rfl dX12_tours_151 f1.1 f1.2 f4 ?_
    refine x_iconst (v := 0) dX12_tours_154 (by decide) ?_
    refine x_aload_n dX12_tours_155 1 rfl ?_
    refine x_getR fdX12_105 rfl dX12_tours_156 f1.1 f1.2 f2 ?_
    refine x_iconst (v := 0) dX12_tours_159 (by decide) ?_
    refine EX.sub [3, 4, 5, 0] (K0.s (As := [.ref 164, .int 0, .ref 162, .int 0]) (st := []) csX12_359 dX12_tours_160 rfl rfl (Nat.le_of_ble_eq_true rfl) (k1 c1)) rfl
  · refine x_aload_n dX12_tours_71 0 rfl ?_
    refine x_getR fdX12_13 rfl dX12_tours_72 f1.1 f1.2 f5 ?_
    refine x_iconst (v := 1) dX12_tours_75 (by decide) ?_
    refine x_iald dX12_tours_76 f6.1 f6.2 (by unfold vp_in; decide) ?_
    refine x_if_le 142 dX12_tours_77 (by decide) (fun c2 => ?_) (fun c2 => ?_)
    · refine x_aload_n dX12_tours_142 0 rfl ?_
      refine x_getR fdX12_105 rfl dX12_tours_143 f1.1 f1.2 f2 ?_
      refine x_iconst (v := 0) dX12_tours_146 (by decide) ?_
      refine x_iald dX12_tours_147 f3.1 f3.2 (by unfold vp_in; decide) ?_
      refine x_istore (lv1 := [(6, .int (mi M 162 0)), (0, .ref 130), (2, .int i2), (3, .int i3), (4, .int i4), (5, .int i5)]) dX12_tours_148 (by decide) rfl ?_
      refine x_aload_n dX12_tours_150 1 rfl ?_
      refine x_getR fdX12_111 rfl dX12_tours_151 f1.1 f1.2 f4 ?_
      refine x_iconst (v := 0) dX12_tours_154 (by decide) ?_
      refine x_aload_n dX12_tours_155 1 rfl ?_
      refine x_getR fdX12_105 rfl dX12_tours_156 f1.1 f1.2 f2 ?_
      refine x_iconst (v := 0) dX12_tours_159 (by decide) ?_
      refine EX.sub [3, 4, 5, 0] (K0.s (As := [.ref 164, .int 0, .ref 162, .int 0]) (st := []) csX12_359 dX12_tours_160 rfl rfl (Nat.le_of_ble_eq_true rfl) (k2 c1 c2)) rfl
    · refine x_aload_n dX12_tours_80 0 rfl ?_
      refine x_aload_n dX12_tours_81 0 rfl ?_
      refine x_aload_n dX12_tours_82 0 rfl ?_
      refine x_getR fdX12_13 rfl dX12_tours_83 f1.1 f1.2 f5 ?_
      refine x_iconst (v := 1) dX12_tours_86 (by decide) ?_
      refine x_iald dX12_tours_87 f6.1 f6.2 (by unfold vp_in; decide) ?_
      refine EX.sub [0, 1, 2, 3, 4, 5] (K0.v (As := [.int (mi M 132 1)]) (st := [.ref 130]) cvX12_441 dX12_tours_88 rfl rfl f1 rfl (Nat.le_of_ble_eq_true rfl) (k3 c1 c2)) rfl
set_option maxRecDepth 8000 in
theorem qX12_tours_91 {g : GG} {d : Nat} {M : MM} {P : Option Value → MM → Prop} {i2 : Int32} {i3 : Int32} {i4 : Int32} {i5 : Int32} {i6 : Int32} {s0 : Nat} {s1 : Int32}
    (h1 : ob M s0 12)
    (k1 : K0 g YX12_tours YX12_cuts d 94 [.ref s0, .int s1] [(0, .ref 130), (2, .int i2), (3, .int i3), (4, .int i4), (5, .int i5), (6, .int i6)] [] M P) :
    E0 g YX12_tours d 91 [(0, .ref 130), (2, .int i2), (3, .int i3), (4, .int i4), (5, .int i5), (6, .int i6)] [.int s1, .ref s0] M P := by
  refine EX.sub [0, 1, 2, 3, 4, 5] (K0.v (As := [.int s1]) (st := []) cvX12_344 dX12_tours_91 rfl rfl h1 rfl (Nat.le_of_ble_eq_true rfl) (k1)) rfl
set_option maxRecDepth 8000 in
theorem qX12_tours_94 {g : GG} {d : Nat} {M : MM} {P : Option Value → MM → Prop} {i2 : Int32} {i3 : Int32} {i4 : Int32} {i5 : Int32} {i6 : Int32} {la lb pa pb rl : Nat} (L : Lay M la lb pa pb rl)
    (k1 : K0 g YX12_tours YX12_minutesOf d 106 [.ref 130, .int (mi M 162 0)] [(0, .ref 130), (2, .int i2), (3, .int i3), (5, .int i5), (6, .int i6)] [.int i4] M P) :
    E0 g YX12_tours d 94 [(0, .ref 130), (2, .int i2), (3, .int i3), (4, .int i4), (5, .int i5), (6, .int i6)] [] M P := by
  have f1 : ob M 130 12 := L.s rfl (by decide)
  have f2 : mr M 130 43 = some 162 := L.r 157 rfl
  have f3 : ar M 162 1 19 := L.s rfl (by decide)
  refine x_iload dX12_tours_94 3 rfl ?_
  refine x_aload_n dX12_tours_96 0 rfl ?_
  refine x_aload_n dX12_tours_97 0 rfl ?_
  refine x_getR fdX12_105 rfl dX12_tours_98 f1.1 f1.2 f2 ?_
  refine x_iconst (v := 0) dX12_tours_101 (by decide) ?_
  refine x_iald dX12_tours_102 f3.1 f3.2 (by unfold vp_in; decide) ?_
  refine EX.sub [0, 1, 2, 4, 5] (K0.v (As := [.int (mi M 162 0)]) (st := [.int i4]) cvX12_369 dX12_tours_103 rfl rfl f1 rfl (Nat.le_of_ble_eq_true rfl) (k1)) rfl
set_option maxRecDepth 8000 in
theorem qX12_tours_106 {g : GG} {d : Nat} {M : MM} {P : Option Value → MM → Prop} {i2 : Int32} {i3 : Int32} {i5 : Int32} {i6 : Int32} {s0 : Int32} {s1 : Int32} {la lb pa pb rl : Nat} (L : Lay M la lb pa pb rl)
    (k1 : K0 g YX12_tours YX12_makesSense d 121 [.ref 130, .int (mi M 162 0)] [(0, .ref 130), (2, .int i2), (3, .int i3), (4, .int (s0 + s1)), (6, .int i6)] [.int i5] M P) :
    E0 g YX12_tours d 106 [(0, .ref 130), (2, .int i2), (3, .int i3), (5, .int i5), (6, .int i6)] [.int s1, .int s0] M P := by
  have f1 : ob M 130 12 := L.s rfl (by decide)
  have f2 : mr M 130 43 = some 162 := L.r 157 rfl
  have f3 : ar M 162 1 19 := L.s rfl (by decide)
  refine x_iadd dX12_tours_106 ?_
  refine x_istore (lv1 := [(4, .int (s0 + s1)), (0, .ref 130), (2, .int i2), (3, .int i3), (5, .int i5), (6, .int i6)]) dX12_tours_107 (by decide) rfl ?_
  refine x_iload dX12_tours_109 4 rfl ?_
  refine x_aload_n dX12_tours_111 1 rfl ?_
  refine x_aload_n dX12_tours_112 1 rfl ?_
  refine x_getR fdX12_105 rfl dX12_tours_113 f1.1 f1.2 f2 ?_
  refine x_iconst (v := 0) dX12_tours_116 (by decide) ?_
  refine x_iald dX12_tours_117 f3.1 f3.2 (by unfold vp_in; decide) ?_
  refine EX.sub [1, 2, 3, 0, 5] (K0.v (As := [.int (mi M 162 0)]) (st := [.int i5]) cvX12_387 dX12_tours_118 rfl rfl f1 rfl (Nat.le_of_ble_eq_true rfl) (k1)) rfl
set_option maxRecDepth 8000 in
theorem qX12_tours_121 {g : GG} {d : Nat} {M : MM} {P : Option Value → MM → Prop} {i2 : Int32} {i3 : Int32} {i4 : Int32} {i6 : Int32} {s0 : Int32} {s1 : Int32} {la lb pa pb rl : Nat} (L : Lay M la lb pa pb rl)
    (k1 : s1 = 0 → K0 g YX12_tours YX12_givesSome d 136 [.ref 130] [(0, .ref 130), (2, .int i2), (3, .int i3), (4, .int i4), (5, .int (s0 + 1)), (6, .int i6)] [] M P)
    (k2 : ¬ (s1 = 0) → K0 g YX12_tours YX12_givesSome d 136 [.ref 130] [(0, .ref 130), (2, .int i2), (3, .int i3), (4, .int i4), (5, .int (s0 + 0)), (6, .int i6)] [] M P) :
    E0 g YX12_tours d 121 [(0, .ref 130), (2, .int i2), (3, .int i3), (4, .int i4), (6, .int i6)] [.int s1, .int s0] M P := by
  have f1 : ob M 130 12 := L.s rfl (by decide)
  refine x_if_eq 128 dX12_tours_121 (by decide) (fun c1 => ?_) (fun c1 => ?_)
  · refine x_iconst (v := 1) dX12_tours_128 (by decide) ?_
    refine x_iadd dX12_tours_129 ?_
    refine x_istore (lv1 := [(5, .int (s0 + 1)), (0, .ref 130), (2, .int i2), (3, .int i3), (4, .int i4), (6, .int i6)]) dX12_tours_130 (by decide) rfl ?_
    refine x_aload_n dX12_tours_132 1 rfl ?_
    refine EX.sub [1, 2, 3, 4, 0, 5] (K0.v (As := []) (st := []) cvX12_447 dX12_tours_133 rfl rfl f1 rfl (Nat.le_of_ble_eq_true rfl) (k1 c1)) rfl
  · refine x_iconst (v := 0) dX12_tours_124 (by decide) ?_
    refine x_goto 129 dX12_tours_125 (by decide) ?_
    refine x_iadd dX12_tours_129 ?_
    refine x_istore (lv1 := [(5, .int (s0 + 0)), (0, .ref 130), (2, .int i2), (3, .int i3), (4, .int i4), (6, .int i6)]) dX12_tours_130 (by decide) rfl ?_
    refine x_aload_n dX12_tours_132 1 rfl ?_
    refine EX.sub [1, 2, 3, 4, 0, 5] (K0.v (As := []) (st := []) cvX12_447 dX12_tours_133 rfl rfl f1 rfl (Nat.le_of_ble_eq_true rfl) (k2 c1)) rfl
set_option maxRecDepth 8000 in
theorem qX12_tours_136 {g : GG} {d : Nat} {M : MM} {P : Option Value → MM → Prop} {i2 : Int32} {i3 : Int32} {i4 : Int32} {i5 : Int32} {i6 : Int32}
    (k1 : E0 g YX12_tours d 65 [(0, .ref 130), (2, .int i2), (3, .int i3), (4, .int i4), (5, .int i5), (6, .int (i6 + 1))] [] M P) :
    E0 g YX12_tours d 136 [(0, .ref 130), (2, .int i2), (3, .int i3), (4, .int i4), (5, .int i5), (6, .int i6)] [] M P := by
  refine x_iinc (v := (i6 + 1)) (lv1 := [(6, .int (i6 + 1)), (0, .ref 130), (2, .int i2), (3, .int i3), (4, .int i4), (5, .int i5)]) dX12_tours_136 5 rfl rfl (by decide) rfl ?_
  refine x_goto 65 dX12_tours_139 (by decide) ?_
  exact EX.sub [1, 2, 3, 4, 5, 0] k1 rfl
set_option maxRecDepth 8000 in
theorem qX12_tours_163 {g : GG} {d : Nat} {M : MM} {P : Option Value → MM → Prop} {i3 : Int32} {i4 : Int32} {i5 : Int32} {i6 : Int32}
    (k1 : ¬ i3 = 0 → ¬ i3 = 1 → P (some (.int i6)) M)
    (k2 : ¬ i3 = 0 → i3 = 1 → P (some (.int i5)) M)
    (k3 : i3 = 0 → P (some (.int i4)) M) :
    E0 g YX12_tours d 163 [(3, .int i3), (4, .int i4), (5, .int i5), (6, .int i6)] [] M P := by
  refine x_iload_n dX12_tours_163 0 rfl ?_
  refine x_if_ne 172 dX12_tours_164 (by decide) (fun c1 => ?_) (fun c1 => ?_)
  · refine x_iload_n dX12_tours_172 0 rfl ?_
    refine x_iconst (v := 1) dX12_tours_173 (by decide) ?_
    refine x_ic_ne 182 dX12_tours_174 (by decide) (fun c2 => ?_) (fun c2 => ?_)
    · refine x_iload dX12_tours_182 3 rfl ?_
      exact x_iret rfl dX12_tours_184 (Nat.le_refl _) (Nat.le_refl _) (k1 c1 c2)
    · refine x_iload dX12_tours_177 2 rfl ?_
      refine x_goto 184 dX12_tours_179 (by decide) ?_
      exact x_iret rfl dX12_tours_184 (Nat.le_refl _) (Nat.le_refl _) (k2 c1 c2)
  · refine x_iload dX12_tours_167 1 rfl ?_
    refine x_goto 184 dX12_tours_169 (by decide) ?_
    exact x_iret rfl dX12_tours_184 (Nat.le_refl _) (Nat.le_refl _) (k3 c1)
set_option maxRecDepth 8000 in
theorem qX12_mark_0 {g : GG} {d : Nat} {M : MM} {P : Option Value → MM → Prop} {i1 : Int32} {i2 : Int32} {M1 : MM} {la lb pa pb rl : Nat} (L : Lay M la lb pa pb rl)
    (qM1 : M1 = wi M 130 0 0)
    (k1 : K0 g YX12_mark YX12_within d 11 [.int i1, .int 0, .int 3] [(0, .ref 130), (1, .int i1), (2, .int i2)] [] M1 P) :
    E0 g YX12_mark d 0 [(0, .ref 130), (1, .int i1), (2, .int i2)] [] M P := by
  have f1 : ob M 130 12 := L.s rfl (by decide)
  subst qM1
  refine x_aload_n dX12_mark_0 0 rfl ?_
  refine x_iconst (v := 0) dX12_mark_1 (by decide) ?_
  refine x_putI fdX12_138 rfl (Or.inl rfl) dX12_mark_2 f1.1 f1.2 rfl rfl ?_
  refine x_iload_n dX12_mark_5 1 rfl ?_
  refine x_iconst (v := 0) dX12_mark_6 (by decide) ?_
  refine x_iconst (v := 3) dX12_mark_7 (by decide) ?_
  refine EX.sub [0, 1, 2] (K0.s (As := [.int i1, .int 0, .int 3]) (st := []) csX12_253 dX12_mark_8 rfl rfl (Nat.le_of_ble_eq_true rfl) (k1)) rfl
set_option maxRecDepth 8000 in
theorem qX12_mark_11 {g : GG} {d : Nat} {M : MM} {P : Option Value → MM → Prop} {i1 : Int32} {i2 : Int32} {s0 : Int32} {M1 : MM} {M2 : MM} {la lb pa pb rl : Nat} (L : Lay M la lb pa pb rl)
    (qM1 : M1 = wi M 167 (i1 : Int32).toNatClampNeg (vp_nar .boolean 1))
    (qM2 : M2 = wi M 167 (i1 : Int32).toNatClampNeg (vp_nar .boolean 1))
    (h1 : ¬ (s0 = 0) → i2 = 0 → vp_in i1 4)
    (h2 : ¬ (s0 = 0) → ¬ (i2 = 0) → vp_in i1 4)
    (h3 : ¬ (s0 = 0) → ¬ (i2 = 0) → ¬ (mi M 167 (i1 : Int32).toNatClampNeg) = 0 → vp_in i1 4)
    (k1 : s0 = 0 → P (some (.int 0)) M)
    (k2 : ¬ (s0 = 0) → i2 = 0 → i2 = 0 → i2 = 0 → K0 g YX12_mark YX12_laysLines d 68 [.ref 130, .int 0, .int (1 + i1)] [(0, .ref 130), (1, .int i1), (2, .int i2), (3, .int 0), (4, .int (1 + i1))] [] M1 P)
    (k3 : ¬ (s0 = 0) → i2 = 0 → i2 = 0 → ¬ (i2 = 0) → K0 g YX12_mark YX12_laysLines d 68 [.ref 130, .int 0, .int 0] [(0, .ref 130), (1, .int i1), (2, .int i2), (3, .int 0), (4, .int 0)] [] M1 P)
    (k4 : ¬ (s0 = 0) → i2 = 0 → ¬ (i2 = 0) → i2 = 0 → K0 g YX12_mark YX12_laysLines d 68 [.ref 130, .int (1 + i1), .int (1 + i1)] [(0, .ref 130), (1, .int i1), (2, .int i2), (3, .int (1 + i1)), (4, .int (1 + i1))] [] M1 P)
    (k5 : ¬ (s0 = 0) → i2 = 0 → ¬ (i2 = 0) → ¬ (i2 = 0) → K0 g YX12_mark YX12_laysLines d 68 [.ref 130, .int (1 + i1), .int 0] [(0, .ref 130), (1, .int i1), (2, .int i2), (3, .int (1 + i1)), (4, .int 0)] [] M1 P)
    (k6 : ¬ (s0 = 0) → ¬ (i2 = 0) → ¬ (mi M 167 (i1 : Int32).toNatClampNeg) = 0 → i2 = 0 → i2 = 0 → K0 g YX12_mark YX12_laysLines d 68 [.ref 130, .int 0, .int (1 + i1)] [(0, .ref 130), (1, .int i1), (2, .int i2), (3, .int 0), (4, .int (1 + i1))] [] M2 P)
    (k7 : ¬ (s0 = 0) → ¬ (i2 = 0) → ¬ (mi M 167 (i1 : Int32).toNatClampNeg) = 0 → i2 = 0 → ¬ (i2 = 0) → K0 g YX12_mark YX12_laysLines d 68 [.ref 130, .int 0, .int 0] [(0, .ref 130), (1, .int i1), (2, .int i2), (3, .int 0), (4, .int 0)] [] M2 P)
    (k8 : ¬ (s0 = 0) → ¬ (i2 = 0) → ¬ (mi M 167 (i1 : Int32).toNatClampNeg) = 0 → ¬ (i2 = 0) → i2 = 0 → K0 g YX12_mark YX12_laysLines d 68 [.ref 130, .int (1 + i1), .int (1 + i1)] [(0, .ref 130), (1, .int i1), (2, .int i2), (3, .int (1 + i1)), (4, .int (1 + i1))] [] M2 P)
    (k9 : ¬ (s0 = 0) → ¬ (i2 = 0) → ¬ (mi M 167 (i1 : Int32).toNatClampNeg) = 0 → ¬ (i2 = 0) → ¬ (i2 = 0) → K0 g YX12_mark YX12_laysLines d 68 [.ref 130, .int (1 + i1), .int 0] [(0, .ref 130), (1, .int i1), (2, .int i2), (3, .int (1 + i1)), (4, .int 0)] [] M2 P)
    (k10 : ¬ (s0 = 0) → ¬ (i2 = 0) → (mi M 167 (i1 : Int32).toNatClampNeg) = 0 → P (some (.int 0)) M) :
    E0 g YX12_mark d 11 [(0, .ref 130), (1, .int i1), (2, .int i2)] [.int s0] M P := by
  have f1 : ob M 130 12 := L.s rfl (by decide)
  have f2 : mr M 130 48 = some 167 := L.r 162 rfl
  have f3 : ar M 167 3 4 := L.s rfl (by decide)
  subst qM1 qM2
  refine x_if_eq 27 dX12_mark_11 (by decide) (fun c1 => ?_) (fun c1 => ?_)
  · refine x_iconst (v := 0) dX12_mark_27 (by decide) ?_
    exact x_zret rfl dX12_mark_28 rfl (Nat.le_refl _) (Nat.le_refl _) (k1 c1)
  · refine x_iload_n dX12_mark_14 2 rfl ?_
    refine x_if_eq 29 dX12_mark_15 (by decide) (fun c2 => ?_) (fun c2 => ?_)
    · refine x_aload_n dX12_mark_29 0 rfl ?_
      refine x_getR fdX12_120 rfl dX12_mark_30 f1.1 f1.2 f2 ?_
      refine x_iload_n dX12_mark_33 1 rfl ?_
      refine x_iconst (v := 1) dX12_mark_34 (by decide) ?_
      refine x_zast dX12_mark_35 f3.1 f3.2 (h1 c1 c2) ?_
      refine x_iload_n dX12_mark_36 2 rfl ?_
      refine x_if_eq 46 dX12_mark_37 (by decide) (fun c3 => ?_) (fun c3 => ?_)
      · refine x_iconst (v := 0) dX12_mark_46 (by decide) ?_
        refine x_istore_n (lv1 := [(3, .int 0), (0, .ref 130), (1, .int i1), (2, .int i2)]) dX12_mark_47 (by decide) rfl ?_
        refine x_iload_n dX12_mark_48 3 rfl ?_
        refine x_if_eq 56 dX12_mark_49 (by decide) (fun c4 => ?_) (fun c4 => ?_)
        · refine x_iconst (v := 1) dX12_mark_56 (by decide) ?_
          refine x_iload_n dX12_mark_57 2 rfl ?_
          refine x_iadd dX12_mark_58 ?_
          refine x_istore (lv1 := [(4, .int (1 + i1)), (3, .int 0), (0, .ref 130), (1, .int i1), (2, .int i2)]) dX12_mark_59 (by decide) rfl ?_
          refine x_aload_n dX12_mark_61 2 rfl ?_
          refine x_iload_n dX12_mark_62 1 rfl ?_
          refine x_iload dX12_mark_63 0 rfl ?_
          refine EX.sub [2, 3, 4, 1, 0] (K0.v (As := [.int 0, .int (1 + i1)]) (st := []) cvX12_329 dX12_mark_65 rfl rfl f1 rfl (Nat.le_of_ble_eq_true rfl) (k2 c1 c2 c3 c4)) rfl
        · refine x_iconst (v := 0) dX12_mark_52 (by decide) ?_
          refine x_goto 59 dX12_mark_53 (by decide) ?_
          refine x_istore (lv1 := [(4, .int 0), (3, .int 0), (0, .ref 130), (1, .int i1), (2, .int i2)]) dX12_mark_59 (by decide) rfl ?_
          refine x_aload_n dX12_mark_61 2 rfl ?_
          refine x_iload_n dX12_mark_62 1 rfl ?_
          refine x_iload dX12_mark_63 0 rfl ?_
          refine EX.sub [2, 3, 4, 1, 0] (K0.v (As := [.int 0, .int 0]) (st := []) cvX12_329 dX12_mark_65 rfl rfl f1 rfl (Nat.le_of_ble_eq_true rfl) (k3 c1 c2 c3 c4)) rfl
      · refine x_iconst (v := 1) dX12_mark_40 (by decide) ?_
        refine x_iload_n dX12_mark_41 1 rfl ?_
        refine x_iadd dX12_mark_42 ?_
        refine x_goto 47 dX12_mark_43 (by decide) ?_
        refine x_istore_n (lv1 := [(3, .int (1 + i1)), (0, .ref 130), (1, .int i1), (2, .int i2)]) dX12_mark_47 (by decide) rfl ?_
        refine x_iload_n dX12_mark_48 3 rfl ?_
        refine x_if_eq 56 dX12_mark_49 (by decide) (fun c4 => ?_) (fun c4 => ?_)
        · refine x_iconst (v := 1) dX12_mark_56 (by decide) ?_
          refine x_iload_n dX12_mark_57 2 rfl ?_
          refine x_iadd dX12_mark_58 ?_
          refine x_istore (lv1 := [(4, .int (1 + i1)), (3, .int (1 + i1)), (0, .ref 130), (1, .int i1), (2, .int i2)]) dX12_mark_59 (by decide) rfl ?_
          refine x_aload_n dX12_mark_61 2 rfl ?_
          refine x_iload_n dX12_mark_62 1 rfl ?_
          refine x_iload dX12_mark_63 0 rfl ?_
          refine EX.sub [2, 3, 4, 1, 0] (K0.v (As := [.int (1 + i1), .int (1 + i1)]) (st := []) cvX12_329 dX12_mark_65 rfl rfl f1 rfl (Nat.le_of_ble_eq_true rfl) (k4 c1 c2 c3 c4)) rfl
        · refine x_iconst (v := 0) dX12_mark_52 (by decide) ?_
          refine x_goto 59 dX12_mark_53 (by decide) ?_
          refine x_istore (lv1 := [(4, .int 0), (3, .int (1 + i1)), (0, .ref 130), (1, .int i1), (2, .int i2)]) dX12_mark_59 (by decide) rfl ?_
          refine x_aload_n dX12_mark_61 2 rfl ?_
          refine x_iload_n dX12_mark_62 1 rfl ?_
          refine x_iload dX12_mark_63 0 rfl ?_
          refine EX.sub [2, 3, 4, 1, 0] (K0.v (As := [.int (1 + i1), .int 0]) (st := []) cvX12_329 dX12_mark_65 rfl rfl f1 rfl (Nat.le_of_ble_eq_true rfl) (k5 c1 c2 c3 c4)) rfl
    · refine x_aload_n dX12_mark_18 0 rfl ?_
      refine x_getR fdX12_120 rfl dX12_mark_19 f1.1 f1.2 f2 ?_
      refine x_iload_n dX12_mark_22 1 rfl ?_
      refine x_zald dX12_mark_23 f3.1 f3.2 (h2 c1 c2) ?_
      refine x_if_ne 29 dX12_mark_24 (by decide) (fun c3 => ?_) (fun c3 => ?_)
      · refine x_aload_n dX12_mark_29 0 rfl ?_
        refine x_getR fdX12_120 rfl dX12_mark_30 f1.1 f1.2 f2 ?_
        refine x_iload_n dX12_mark_33 1 rfl ?_
        refine x_iconst (v := 1) dX12_mark_34 (by decide) ?_
        refine x_zast dX12_mark_35 f3.1 f3.2 (h3 c1 c2 c3) ?_
        refine x_iload_n dX12_mark_36 2 rfl ?_
        refine x_if_eq 46 dX12_mark_37 (by decide) (fun c4 => ?_) (fun c4 => ?_)
        · refine x_iconst (v := 0) dX12_mark_46 (by decide) ?_
          refine x_istore_n (lv1 := [(3, .int 0), (0, .ref 130), (1, .int i1), (2, .int i2)]) dX12_mark_47 (by decide) rfl ?_
          refine x_iload_n dX12_mark_48 3 rfl ?_
          refine x_if_eq 56 dX12_mark_49 (by decide) (fun c5 => ?_) (fun c5 => ?_)
          · refine x_iconst (v := 1) dX12_mark_56 (by decide) ?_
            refine x_iload_n dX12_mark_57 2 rfl ?_
            refine x_iadd dX12_mark_58 ?_
            refine x_istore (lv1 := [(4, .int (1 + i1)), (3, .int 0), (0, .ref 130), (1, .int i1), (2, .int i2)]) dX12_mark_59 (by decide) rfl ?_
            refine x_aload_n dX12_mark_61 2 rfl ?_
            refine x_iload_n dX12_mark_62 1 rfl ?_
            refine x_iload dX12_mark_63 0 rfl ?_
            refine EX.sub [2, 3, 4, 1, 0] (K0.v (As := [.int 0, .int (1 + i1)]) (st := []) cvX12_329 dX12_mark_65 rfl rfl f1 rfl (Nat.le_of_ble_eq_true rfl) (k6 c1 c2 c3 c4 c5)) rfl
          · refine x_iconst (v := 0) dX12_mark_52 (by decide) ?_
            refine x_goto 59 dX12_mark_53 (by decide) ?_
            refine x_istore (lv1 := [(4, .int 0), (3, .int 0), (0, .ref 130), (1, .int i1), (2, .int i2)]) dX12_mark_59 (by decide) rfl ?_
            refine x_aload_n dX12_mark_61 2 rfl ?_
            refine x_iload_n dX12_mark_62 1 rfl ?_
            refine x_iload dX12_mark_63 0 rfl ?_
            refine EX.sub [2, 3, 4, 1, 0] (K0.v (As := [.int 0, .int 0]) (st := []) cvX12_329 dX12_mark_65 rfl rfl f1 rfl (Nat.le_of_ble_eq_true rfl) (k7 c1 c2 c3 c4 c5)) rfl
        · refine x_iconst (v := 1) dX12_mark_40 (by decide) ?_
          refine x_iload_n dX12_mark_41 1 rfl ?_
          refine x_iadd dX12_mark_42 ?_
          refine x_goto 47 dX12_mark_43 (by decide) ?_
          refine x_istore_n (lv1 := [(3, .int (1 + i1)), (0, .ref 130), (1, .int i1), (2, .int i2)]) dX12_mark_47 (by decide) rfl ?_
          refine x_iload_n dX12_mark_48 3 rfl ?_
          refine x_if_eq 56 dX12_mark_49 (by decide) (fun c5 => ?_) (fun c5 => ?_)
          · refine x_iconst (v := 1) dX12_mark_56 (by decide) ?_
            refine x_iload_n dX12_mark_57 2 rfl ?_
            refine x_iadd dX12_mark_58 ?_
            refine x_istore (lv1 := [(4, .int (1 + i1)), (3, .int (1 + i1)), (0, .ref 130), (1, .int i1), (2, .int i2)]) dX12_mark_59 (by decide) rfl ?_
            refine x_aload_n dX12_mark_61 2 rfl ?_
            refine x_iload_n dX12_mark_62 1 rfl ?_
            refine x_iload dX12_mark_63 0 rfl ?_
            refine EX.sub [2, 3, 4, 1, 0] (K0.v (As := [.int (1 + i1), .int (1 + i1)]) (st := []) cvX12_329 dX12_mark_65 rfl rfl f1 rfl (Nat.le_of_ble_eq_true rfl) (k8 c1 c2 c3 c4 c5)) rfl
          · refine x_iconst (v := 0) dX12_mark_52 (by decide) ?_
            refine x_goto 59 dX12_mark_53 (by decide) ?_
            refine x_istore (lv1 := [(4, .int 0), (3, .int (1 + i1)), (0, .ref 130), (1, .int i1), (2, .int i2)]) dX12_mark_59 (by decide) rfl ?_
            refine x_aload_n dX12_mark_61 2 rfl ?_
            refine x_iload_n dX12_mark_62 1 rfl ?_
            refine x_iload dX12_mark_63 0 rfl ?_
            refine EX.sub [2, 3, 4, 1, 0] (K0.v (As := [.int (1 + i1), .int 0]) (st := []) cvX12_329 dX12_mark_65 rfl rfl f1 rfl (Nat.le_of_ble_eq_true rfl) (k9 c1 c2 c3 c4 c5)) rfl
      · refine x_iconst (v := 0) dX12_mark_27 (by decide) ?_
        exact x_zret rfl dX12_mark_28 rfl (Nat.le_refl _) (Nat.le_refl _) (k10 c1 c2 c3)
set_option maxRecDepth 8000 in
theorem qX12_mark_68 {g : GG} {d : Nat} {M : MM} {P : Option Value → MM → Prop} {i1 : Int32} {i2 : Int32} {i3 : Int32} {i4 : Int32} {la lb pa pb rl : Nat} (L : Lay M la lb pa pb rl)
    (k1 : K0 g YX12_mark YX12_laysSeen d 75 [.ref 130, .int i3, .int i4] [(0, .ref 130), (1, .int i1), (2, .int i2)] [] M P) :
    E0 g YX12_mark d 68 [(0, .ref 130), (1, .int i1), (2, .int i2), (3, .int i3), (4, .int i4)] [] M P := by
  have f1 : ob M 130 12 := L.s rfl (by decide)
  refine x_aload_n dX12_mark_68 0 rfl ?_
  refine x_iload_n dX12_mark_69 3 rfl ?_
  refine x_iload dX12_mark_70 4 rfl ?_
  refine EX.sub [0, 1, 2] (K0.v (As := [.int i3, .int i4]) (st := []) cvX12_450 dX12_mark_72 rfl rfl f1 rfl (Nat.le_of_ble_eq_true rfl) (k1)) rfl
set_option maxRecDepth 8000 in
theorem qX12_mark_75 {g : GG} {d : Nat} {M : MM} {P : Option Value → MM → Prop} {i1 : Int32} {i2 : Int32} {la lb pa pb rl : Nat} (L : Lay M la lb pa pb rl)
    (k1 : i2 = 0 → K0 g YX12_mark YX12_copies d 119 [.ref 162, .int 0, .ref 165, .int (19 * i1)] [] [] M P)
    (k2 : ¬ (i2 = 0) → K0 g YX12_mark YX12_copies d 95 [.ref 165, .int (19 * i1), .ref 162, .int 0] [(0, .ref 130)] [] M P) :
    E0 g YX12_mark d 75 [(0, .ref 130), (1, .int i1), (2, .int i2)] [] M P := by
  have f1 : ob M 130 12 := L.s rfl (by decide)
  have f2 : mr M 130 43 = some 162 := L.r 157 rfl
  have f3 : mr M 130 46 = some 165 := L.r 160 rfl
  refine x_iload_n dX12_mark_75 2 rfl ?_
  refine x_if_eq 103 dX12_mark_76 (by decide) (fun c1 => ?_) (fun c1 => ?_)
  · refine x_aload_n dX12_mark_103 0 rfl ?_
    refine x_getR fdX12_105 rfl dX12_mark_104 f1.1 f1.2 f2 ?_
    refine x_iconst (v := 0) dX12_mark_107 (by decide) ?_
    refine x_aload_n dX12_mark_108 0 rfl ?_
    refine x_getR fdX12_114 rfl dX12_mark_109 f1.1 f1.2 f3 ?_
    refine x_bipush (v := 19) dX12_mark_112 (by decide) ?_
    refine x_iload_n dX12_mark_114 1 rfl ?_
    refine x_imul dX12_mark_115 ?_
    refine EX.sub [] (K0.s (As := [.ref 162, .int 0, .ref 165, .int (19 * i1)]) (st := []) csX12_359 dX12_mark_116 rfl rfl (Nat.le_of_ble_eq_true rfl) (k1 c1)) rfl
  · refine x_aload_n dX12_mark_79 0 rfl ?_
    refine x_getR fdX12_114 rfl dX12_mark_80 f1.1 f1.2 f3 ?_
    refine x_bipush (v := 19) dX12_mark_83 (by decide) ?_
    refine x_iload_n dX12_mark_85 1 rfl ?_
    refine x_imul dX12_mark_86 ?_
    refine x_aload_n dX12_mark_87 0 rfl ?_
    refine x_getR fdX12_105 rfl dX12_mark_88 f1.1 f1.2 f2 ?_
    refine x_iconst (v := 0) dX12_mark_91 (by decide) ?_
    refine EX.sub [0] (K0.s (As := [.ref 165, .int (19 * i1), .ref 162, .int 0]) (st := []) csX12_359 dX12_mark_92 rfl rfl (Nat.le_of_ble_eq_true rfl) (k2 c1)) rfl
set_option maxRecDepth 8000 in
theorem qX12_mark_95 {g : GG} {d : Nat} {M : MM} {P : Option Value → MM → Prop}  {M1 : MM} {la lb pa pb rl : Nat} (L : Lay M la lb pa pb rl)
    (qM1 : M1 = wi M 130 49 0)
    (k1 : E0 g YX12_mark d 119 [] [] M1 P) :
    E0 g YX12_mark d 95 [(0, .ref 130)] [] M P := by
  have f1 : ob M 130 12 := L.s rfl (by decide)
  subst qM1
  refine x_aload_n dX12_mark_95 0 rfl ?_
  refine x_iconst (v := 0) dX12_mark_96 (by decide) ?_
  refine x_putI fdX12_323 rfl (Or.inl rfl) dX12_mark_97 f1.1 f1.2 rfl rfl ?_
  refine x_goto 119 dX12_mark_100 (by decide) ?_
  exact EX.sub [] k1 rfl
set_option maxRecDepth 8000 in
theorem qX12_mark_119 {g : GG} {d : Nat} {M : MM} {P : Option Value → MM → Prop} 
    (k1 : P (some (.int 1)) M) :
    E0 g YX12_mark d 119 [] [] M P := by
  refine x_iconst (v := 1) dX12_mark_119 (by decide) ?_
  exact x_zret rfl dX12_mark_120 rfl (Nat.le_refl _) (Nat.le_refl _) (k1)
set_option maxRecDepth 8000 in
theorem qX12_count_0 {g : GG} {d : Nat} {M : MM} {P : Option Value → MM → Prop} {i1 : Int32} {M1 : MM} {la lb pa pb rl : Nat} (L : Lay M la lb pa pb rl)
    (qM1 : M1 = wi M 130 0 0)
    (k1 : K0 g YX12_count YX12_within d 12 [.int i1, .int 0, .int 10] [(0, .ref 130), (1, .int i1)] [] M1 P) :
    E0 g YX12_count d 0 [(0, .ref 130), (1, .int i1)] [] M P := by
  have f1 : ob M 130 12 := L.s rfl (by decide)
  subst qM1
  refine x_aload_n dX12_count_0 0 rfl ?_
  refine x_iconst (v := 0) dX12_count_1 (by decide) ?_
  refine x_putI fdX12_138 rfl (Or.inl rfl) dX12_count_2 f1.1 f1.2 rfl rfl ?_
  refine x_iload_n dX12_count_5 1 rfl ?_
  refine x_iconst (v := 0) dX12_count_6 (by decide) ?_
  refine x_bipush (v := 10) dX12_count_7 (by decide) ?_
  refine EX.sub [0, 1] (K0.s (As := [.int i1, .int 0, .int 10]) (st := []) csX12_253 dX12_count_9 rfl rfl (Nat.le_of_ble_eq_true rfl) (k1)) rfl
set_option maxRecDepth 8000 in
theorem qX12_count_12 {g : GG} {d : Nat} {M : MM} {P : Option Value → MM → Prop} {i1 : Int32} {s0 : Int32} {la lb pa pb rl : Nat} (L : Lay M la lb pa pb rl)
    (h1 : ¬ s0 = 0 → ¬ (2 ≤ i1) → vp_in i1 4)
    (k1 : ¬ s0 = 0 → 2 ≤ i1 → 5 ≤ i1 → 8 ≤ i1 → ¬ i1 = 8 → ¬ i1 = 9 → P (some (.int (mi M 130 1))) M)
    (k2 : ¬ s0 = 0 → 2 ≤ i1 → 5 ≤ i1 → 8 ≤ i1 → ¬ i1 = 8 → i1 = 9 → P (some (.int (mi M 130 49))) M)
    (k3 : ¬ s0 = 0 → 2 ≤ i1 → 5 ≤ i1 → 8 ≤ i1 → i1 = 8 → P (some (.int (mi M 159 0))) M)
    (k4 : ¬ s0 = 0 → 2 ≤ i1 → 5 ≤ i1 → ¬ (8 ≤ i1) → ¬ i1 = 5 → ¬ i1 = 6 → P (some (.int (mi M 154 0))) M)
    (k5 : ¬ s0 = 0 → 2 ≤ i1 → 5 ≤ i1 → ¬ (8 ≤ i1) → ¬ i1 = 5 → i1 = 6 → K0 g YX12_count YX12_inDrawers d 101 [.ref 130] [] [] M P)
    (k6 : ¬ s0 = 0 → 2 ≤ i1 → 5 ≤ i1 → ¬ (8 ≤ i1) → i1 = 5 → P (some (.int (mi M 162 2))) M)
    (k7 : ¬ s0 = 0 → 2 ≤ i1 → ¬ (5 ≤ i1) → ¬ i1 = 2 → ¬ i1 = 3 → K0 g YX12_count YX12_nextHall d 70 [.ref 130] [] [] M P)
    (k8 : ¬ s0 = 0 → 2 ≤ i1 → ¬ (5 ≤ i1) → ¬ i1 = 2 → i1 = 3 → K0 g YX12_count YX12_minutesOf d 63 [.ref 130, .int (mi M 162 0)] [] [] M P)
    (k9 : ¬ s0 = 0 → 2 ≤ i1 → ¬ (5 ≤ i1) → i1 = 2 → E0 g YX12_count d 70 [] [.int (mi M 162 0)] M P)
    (k10 : ¬ s0 = 0 → ¬ (2 ≤ i1) → P (some (.int (mi M 132 (i1 : Int32).toNatClampNeg))) M)
    (k11 : s0 = 0 → P (some (.int (-1))) M) :
    E0 g YX12_count d 12 [(0, .ref 130), (1, .int i1)] [.int s0] M P := by
  have f1 : ob M 130 12 := L.s rfl (by decide)
  have f2 : mr M 130 40 = some 159 := L.r 154 rfl
  have f3 : ar M 159 1 5 := L.s rfl (by decide)
  have f4 : mr M 130 35 = some 154 := L.r 149 rfl
  have f5 : ar M 154 1 6 := L.s rfl (by decide)
  have f6 : mr M 130 43 = some 162 := L.r 157 rfl
  have f7 : ar M 162 1 19 := L.s rfl (by decide)
  have f8 : mr M 130 10 = some 132 := L.r 127 rfl
  have f9 : ar M 132 1 4 := L.s rfl (by decide)
  refine x_if_ne 17 dX12_count_12 (by decide) (fun c1 => ?_) (fun c1 => ?_)
  · refine x_iload_n dX12_count_17 1 rfl ?_
    refine x_iconst (v := 2) dX12_count_18 (by decide) ?_
    refine x_ic_ge 29 dX12_count_19 (by decide) (fun c2 => ?_) (fun c2 => ?_)
    · refine x_iload_n dX12_count_29 1 rfl ?_
      refine x_iconst (v := 5) dX12_count_30 (by decide) ?_
      refine x_ic_ge 71 dX12_count_31 (by decide) (fun c3 => ?_) (fun c3 => ?_)
      · refine x_iload_n dX12_count_71 1 rfl ?_
        refine x_bipush (v := 8) dX12_count_72 (by decide) ?_
        refine x_ic_ge 111 dX12_count_74 (by decide) (fun c4 => ?_) (fun c4 => ?_)
        · refine x_iload_n dX12_count_111 1 rfl ?_
          refine x_bipush (v := 8) dX12_count_112 (by decide) ?_
          refine x_ic_ne 126 dX12_count_114 (by decide) (fun c5 => ?_) (fun c5 => ?_)
          · refine x_iload_n dX12_count_126 1 rfl ?_
            refine x_bipush (v := 9) dX12_count_127 (by decide) ?_
            refine x_ic_ne 139 dX12_count_129 (by decide) (fun c6 => ?_) (fun c6 => ?_)
            · refine x_aload_n dX12_count_139 0 rfl ?_
              refine x_getI fdX12_144 rfl dX12_count_140 f1.1 f1.2 ?_
              exact x_iret rfl dX12_count_143 (Nat.le_refl _) (Nat.le_refl _) (k1 c1 c2 c3 c4 c5 c6)
            · refine x_aload_n dX12_count_132 0 rfl ?_
              refine x_getI fdX12_323 rfl dX12_count_133 f1.1 f1.2 ?_
              refine x_goto 143 dX12_count_136 (by decide) ?_
              exact x_iret rfl dX12_count_143 (Nat.le_refl _) (Nat.le_refl _) (k2 c1 c2 c3 c4 c5 c6)
          · refine x_aload_n dX12_count_117 0 rfl ?_
            refine x_getR fdX12_96 rfl dX12_count_118 f1.1 f1.2 f2 ?_
            refine x_iconst (v := 0) dX12_count_121 (by decide) ?_
            refine x_iald dX12_count_122 f3.1 f3.2 (by unfold vp_in; decide) ?_
            refine x_goto 143 dX12_count_123 (by decide) ?_
            exact x_iret rfl dX12_count_143 (Nat.le_refl _) (Nat.le_refl _) (k3 c1 c2 c3 c4 c5)
        · refine x_iload_n dX12_count_77 1 rfl ?_
          refine x_iconst (v := 5) dX12_count_78 (by decide) ?_
          refine x_ic_ne 91 dX12_count_79 (by decide) (fun c5 => ?_) (fun c5 => ?_)
          · refine x_iload_n dX12_count_91 1 rfl ?_
            refine x_bipush (v := 6) dX12_count_92 (by decide) ?_
            refine x_ic_ne 104 dX12_count_94 (by decide) (fun c6 => ?_) (fun c6 => ?_)
            · refine x_aload_n dX12_count_104 0 rfl ?_
              refine x_getR fdX12_81 rfl dX12_count_105 f1.1 f1.2 f4 ?_
              refine x_iconst (v := 0) dX12_count_108 (by decide) ?_
              refine x_iald dX12_count_109 f5.1 f5.2 (by unfold vp_in; decide) ?_
              exact x_iret rfl dX12_count_110 (Nat.le_refl _) (Nat.le_refl _) (k4 c1 c2 c3 c4 c5 c6)
            · refine x_aload_n dX12_count_97 0 rfl ?_
              refine EX.sub [] (K0.v (As := []) (st := []) cvX12_417 dX12_count_98 rfl rfl f1 rfl (Nat.le_of_ble_eq_true rfl) (k5 c1 c2 c3 c4 c5 c6)) rfl
          · refine x_aload_n dX12_count_82 0 rfl ?_
            refine x_getR fdX12_105 rfl dX12_count_83 f1.1 f1.2 f6 ?_
            refine x_iconst (v := 2) dX12_count_86 (by decide) ?_
            refine x_iald dX12_count_87 f7.1 f7.2 (by unfold vp_in; decide) ?_
            refine x_goto 110 dX12_count_88 (by decide) ?_
            exact x_iret rfl dX12_count_110 (Nat.le_refl _) (Nat.le_refl _) (k6 c1 c2 c3 c4 c5)
      · refine x_iload_n dX12_count_34 1 rfl ?_
        refine x_iconst (v := 2) dX12_count_35 (by decide) ?_
        refine x_ic_ne 48 dX12_count_36 (by decide) (fun c4 => ?_) (fun c4 => ?_)
        · refine x_iload_n dX12_count_48 1 rfl ?_
          refine x_iconst (v := 3) dX12_count_49 (by decide) ?_
          refine x_ic_ne 66 dX12_count_50 (by decide) (fun c5 => ?_) (fun c5 => ?_)
          · refine x_aload_n dX12_count_66 0 rfl ?_
            refine EX.sub [] (K0.v (As := []) (st := []) cvX12_381 dX12_count_67 rfl rfl f1 rfl (Nat.le_of_ble_eq_true rfl) (k7 c1 c2 c3 c4 c5)) rfl
          · refine x_aload_n dX12_count_53 0 rfl ?_
            refine x_aload_n dX12_count_54 0 rfl ?_
            refine x_getR fdX12_105 rfl dX12_count_55 f1.1 f1.2 f6 ?_
            refine x_iconst (v := 0) dX12_count_58 (by decide) ?_
            refine x_iald dX12_count_59 f7.1 f7.2 (by unfold vp_in; decide) ?_
            refine EX.sub [] (K0.v (As := [.int (mi M 162 0)]) (st := []) cvX12_369 dX12_count_60 rfl rfl f1 rfl (Nat.le_of_ble_eq_true rfl) (k8 c1 c2 c3 c4 c5)) rfl
        · refine x_aload_n dX12_count_39 0 rfl ?_
          refine x_getR fdX12_105 rfl dX12_count_40 f1.1 f1.2 f6 ?_
          refine x_iconst (v := 0) dX12_count_43 (by decide) ?_
          refine x_iald dX12_count_44 f7.1 f7.2 (by unfold vp_in; decide) ?_
          refine x_goto 70 dX12_count_45 (by decide) ?_
          exact EX.sub [] (k9 c1 c2 c3 c4) rfl
    · refine x_aload_n dX12_count_22 0 rfl ?_
      refine x_getR fdX12_13 rfl dX12_count_23 f1.1 f1.2 f8 ?_
      refine x_iload_n dX12_count_26 1 rfl ?_
      refine x_iald dX12_count_27 f9.1 f9.2 (h1 c1 c2) ?_
      exact x_iret rfl dX12_count_28 (Nat.le_refl _) (Nat.le_refl _) (k10 c1 c2)
  · refine x_iconst (v := (-1)) dX12_count_15 (by decide) ?_
    exact x_iret rfl dX12_count_16 (Nat.le_refl _) (Nat.le_refl _) (k11 c1)
set_option maxRecDepth 8000 in
theorem qX12_count_63 {g : GG} {d : Nat} {M : MM} {P : Option Value → MM → Prop} {s0 : Int32}
    (k1 : E0 g YX12_count d 70 [] [.int s0] M P) :
    E0 g YX12_count d 63 [] [.int s0] M P := by
  refine x_goto 70 dX12_count_63 (by decide) ?_
  exact EX.sub [] k1 rfl
set_option maxRecDepth 8000 in
theorem qX12_count_70 {g : GG} {d : Nat} {M : MM} {P : Option Value → MM → Prop} {s0 : Int32}
    (k1 : P (some (.int s0)) M) :
    E0 g YX12_count d 70 [] [.int s0] M P := by
  exact x_iret rfl dX12_count_70 (Nat.le_refl _) (Nat.le_refl _) (k1)
set_option maxRecDepth 8000 in
theorem qX12_count_101 {g : GG} {d : Nat} {M : MM} {P : Option Value → MM → Prop} {s0 : Int32}
    (k1 : P (some (.int s0)) M) :
    E0 g YX12_count d 101 [] [.int s0] M P := by
  refine x_goto 110 dX12_count_101 (by decide) ?_
  exact x_iret rfl dX12_count_110 (Nat.le_refl _) (Nat.le_refl _) (k1)
