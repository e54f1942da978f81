set_option maxRecDepth 8000 in
theorem qX9_addBytes_0 {g : GG} {d : Nat} {M : MM} {P : Option Value → MM → Prop} {j1 : Int64}
    (k1 : E0 g YX9_addBytes d 3 [(0, .ref 25), (1, .long j1), (3, .int 56)] [] M P) :
    E0 g YX9_addBytes d 0 [(0, .ref 25), (1, .long j1)] [] M P := by
  refine x_bipush (v := 56) dX9_addBytes_0 (by decide) ?_
  refine x_istore_n (lv1 := [(3, .int 56), (0, .ref 25), (1, .long j1)]) dX9_addBytes_2 (by decide) rfl ?_
  exact EX.sub [1, 2, 0] k1 rfl
set_option maxRecDepth 8000 in
theorem qX9_addBytes_3 {g : GG} {d : Nat} {M : MM} {P : Option Value → MM → Prop} {j1 : Int64} {i3 : Int32} {M1 : MM} {M2 : MM} {M3 : MM} {M4 : MM} {la lb pa pb rl : Nat} (L : Lay M la lb pa pb rl)
    (qM1 : M1 = wi M 27 ((mi M 25 2) : Int32).toNatClampNeg (vp_nar .char ((((((j1 : Int64).toUInt64 >>> ((i3 : Int32).toInt64.toUInt64 &&& Int64.toUInt64 63)).toInt64 : Int64).toInt32 &&& 255) : Int32).toUInt32 % 65536).toInt32))
    (qM2 : M2 = wi M1 25 2 ((mi M1 25 2) + 1))
    (qM3 : M3 = wi M 27 ((mi M 25 2) : Int32).toNatClampNeg (vp_nar .char ((((((j1 : Int64).toUInt64 >>> ((i3 : Int32).toInt64.toUInt64 &&& Int64.toUInt64 63)).toInt64 : Int64).toInt32 &&& 255) : Int32).toUInt32 % 65536).toInt32))
    (qM4 : M4 = wi M3 25 2 ((mi M3 25 2) + 1))
    (h1 : ¬ (i3 < 0) → ((((j1 : Int64).toUInt64 >>> ((i3 : Int32).toInt64.toUInt64 &&& Int64.toUInt64 63)).toInt64 : Int64).toInt32 &&& 255) = 10 → ¬ (1000 ≤ (mi M 25 2)) → vp_in (mi M 25 2) 1000)
    (h2 : ¬ (i3 < 0) → ¬ (((((j1 : Int64).toUInt64 >>> ((i3 : Int32).toInt64.toUInt64 &&& Int64.toUInt64 63)).toInt64 : Int64).toInt32 &&& 255) = 10) → ¬ (((((j1 : Int64).toUInt64 >>> ((i3 : Int32).toInt64.toUInt64 &&& Int64.toUInt64 63)).toInt64 : Int64).toInt32 &&& 255) < 32) → ¬ (126 < ((((j1 : Int64).toUInt64 >>> ((i3 : Int32).toInt64.toUInt64 &&& Int64.toUInt64 63)).toInt64 : Int64).toInt32 &&& 255)) → ¬ (1000 ≤ (mi M 25 2)) → vp_in (mi M 25 2) 1000)
    (k1 : i3 < 0 → P none M)
    (k2 : ¬ (i3 < 0) → ((((j1 : Int64).toUInt64 >>> ((i3 : Int32).toInt64.toUInt64 &&& Int64.toUInt64 63)).toInt64 : Int64).toInt32 &&& 255) = 10 → 1000 ≤ (mi M 25 2) → E0 g YX9_addBytes d 3 [(0, .ref 25), (1, .long j1), (3, .int (i3 + (-8)))] [] M P)
    (k3 : ¬ (i3 < 0) → ((((j1 : Int64).toUInt64 >>> ((i3 : Int32).toInt64.toUInt64 &&& Int64.toUInt64 63)).toInt64 : Int64).toInt32 &&& 255) = 10 → ¬ (1000 ≤ (mi M 25 2)) → E0 g YX9_addBytes d 3 [(0, .ref 25), (1, .long j1), (3, .int (i3 + (-8)))] [] M2 P)
    (k4 : ¬ (i3 < 0) → ¬ (((((j1 : Int64).toUInt64 >>> ((i3 : Int32).toInt64.toUInt64 &&& Int64.toUInt64 63)).toInt64 : Int64).toInt32 &&& 255) = 10) → ((((j1 : Int64).toUInt64 >>> ((i3 : Int32).toInt64.toUInt64 &&& Int64.toUInt64 63)).toInt64 : Int64).toInt32 &&& 255) < 32 → E0 g YX9_addBytes d 3 [(0, .ref 25), (1, .long j1), (3, .int (i3 + (-8)))] [] M P)
    (k5 : ¬ (i3 < 0) → ¬ (((((j1 : Int64).toUInt64 >>> ((i3 : Int32).toInt64.toUInt64 &&& Int64.toUInt64 63)).toInt64 : Int64).toInt32 &&& 255) = 10) → ¬ (((((j1 : Int64).toUInt64 >>> ((i3 : Int32).toInt64.toUInt64 &&& Int64.toUInt64 63)).toInt64 : Int64).toInt32 &&& 255) < 32) → 126 < ((((j1 : Int64).toUInt64 >>> ((i3 : Int32).toInt64.toUInt64 &&& Int64.toUInt64 63)).toInt64 : Int64).toInt32 &&& 255) → E0 g YX9_addBytes d 3 [(0, .ref 25), (1, .long j1), (3, .int (i3 + (-8)))] [] M P)
    (k6 : ¬ (i3 < 0) → ¬ (((((j1 : Int64).toUInt64 >>> ((i3 : Int32).toInt64.toUInt64 &&& Int64.toUInt64 63)).toInt64 : Int64).toInt32 &&& 255) = 10) → ¬ (((((j1 : Int64).toUInt64 >>> ((i3 : Int32).toInt64.toUInt64 &&& Int64.toUInt64 63)).toInt64 : Int64).toInt32 &&& 255) < 32) → ¬ (126 < ((((j1 : Int64).toUInt64 >>> ((i3 : Int32).toInt64.toUInt64 &&& Int64.toUInt64 63)).toInt64 : Int64).toInt32 &&& 255)) → 1000 ≤ (mi M 25 2) → E0 g YX9_addBytes d 3 [(0, .ref 25), (1, .long j1), (3, .int (i3 + (-8)))] [] M P)
    (k7 : ¬ (i3 < 0) → ¬ (((((j1 : Int64).toUInt64 >>> ((i3 : Int32).toInt64.toUInt64 &&& Int64.toUInt64 63)).toInt64 : Int64).toInt32 &&& 255) = 10) → ¬ (((((j1 : Int64).toUInt64 >>> ((i3 : Int32).toInt64.toUInt64 &&& Int64.toUInt64 63)).toInt64 : Int64).toInt32 &&& 255) < 32) → ¬ (126 < ((((j1 : Int64).toUInt64 >>> ((i3 : Int32).toInt64.toUInt64 &&& Int64.toUInt64 63)).toInt64 : Int64).toInt32 &&& 255)) → ¬ (1000 ≤ (mi M 25 2)) → E0 g YX9_addBytes d 3 [(0, .ref 25), (1, .long j1), (3, .int (i3 + (-8)))] [] M4 P) :
    E0 g YX9_addBytes d 3 [(0, .ref 25), (1, .long j1), (3, .int i3)] [] M P := by
  have f1 : ob M 25 9 := L.s rfl (by decide)
  have f2 : mr M 25 1 = some 27 := L.r 33 rfl
  have f3 : ar M 27 4 1000 := L.s rfl (by decide)
  subst qM1 qM2 qM3 qM4
  refine x_iload_n dX9_addBytes_3 2 rfl ?_
  refine x_if_lt 88 dX9_addBytes_4 (by decide) (fun c1 => ?_) (fun c1 => ?_)
  · exact x_vret rfl dX9_addBytes_88 (Nat.le_refl _) (Nat.le_refl _) (k1 c1)
  · refine x_lload_n dX9_addBytes_7 1 rfl ?_
    refine x_iload_n dX9_addBytes_8 2 rfl ?_
    refine x_lushr dX9_addBytes_9 ?_
    refine x_l2i dX9_addBytes_10 ?_
    refine x_sipush (v := 255) dX9_addBytes_11 (by decide) ?_
    refine x_iand dX9_addBytes_14 ?_
    refine x_istore (lv1 := [(4, .int ((((j1 : Int64).toUInt64 >>> ((i3 : Int32).toInt64.toUInt64 &&& Int64.toUInt64 63)).toInt64 : Int64).toInt32 &&& 255)), (0, .ref 25), (1, .long j1), (3, .int i3)]) dX9_addBytes_15 (by decide) rfl ?_
    refine x_iload dX9_addBytes_17 0 rfl ?_
    refine x_bipush (v := 10) dX9_addBytes_19 (by decide) ?_
    refine x_ic_eq 38 dX9_addBytes_21 (by decide) (fun c2 => ?_) (fun c2 => ?_)
    · refine x_iconst (v := 1) dX9_addBytes_38 (by decide) ?_
      refine x_goto 43 dX9_addBytes_39 (by decide) ?_
      refine x_istore (lv1 := [(5, .int 1), (4, .int ((((j1 : Int64).toUInt64 >>> ((i3 : Int32).toInt64.toUInt64 &&& Int64.toUInt64 63)).toInt64 : Int64).toInt32 &&& 255)), (0, .ref 25), (1, .long j1), (3, .int i3)]) dX9_addBytes_43 (by decide) rfl ?_
      refine x_iload dX9_addBytes_45 0 rfl ?_
      refine x_if_eq 82 dX9_addBytes_47 (by decide) (fun cz => absurd cz (by decide)) (fun _ => ?_)
      refine x_aload_n dX9_addBytes_50 2 rfl ?_
      refine x_getI fdX9_33 rfl dX9_addBytes_51 f1.1 f1.2 ?_
      refine x_sipush (v := 1000) dX9_addBytes_54 (by decide) ?_
      refine x_ic_ge 82 dX9_addBytes_57 (by decide) (fun c3 => ?_) (fun c3 => ?_)
      · refine x_iinc (v := (i3 + (-8))) (lv1 := [(3, .int (i3 + (-8))), (5, .int 1), (4, .int ((((j1 : Int64).toUInt64 >>> ((i3 : Int32).toInt64.toUInt64 &&& Int64.toUInt64 63)).toInt64 : Int64).toInt32 &&& 255)), (0, .ref 25), (1, .long j1)]) dX9_addBytes_82 4 rfl rfl (by decide) rfl ?_
        refine x_goto 3 dX9_addBytes_85 (by decide) ?_
        exact EX.sub [3, 4, 0] (k2 c1 c2 c3) rfl
      · refine x_aload_n dX9_addBytes_60 2 rfl ?_
        refine x_getR fdX9_15 rfl dX9_addBytes_61 f1.1 f1.2 f2 ?_
        refine x_aload_n dX9_addBytes_64 2 rfl ?_
        refine x_getI fdX9_33 rfl dX9_addBytes_65 f1.1 f1.2 ?_
        refine x_iload dX9_addBytes_68 1 rfl ?_
        refine x_i2c dX9_addBytes_70 ?_
        refine x_cast dX9_addBytes_71 f3.1 f3.2 (h1 c1 c2 c3) ?_
        refine x_aload_n dX9_addBytes_72 2 rfl ?_
        refine x_dup dX9_addBytes_73 rfl ?_
        refine x_getI fdX9_33 rfl dX9_addBytes_74 f1.1 f1.2 ?_
        refine x_iconst (v := 1) dX9_addBytes_77 (by decide) ?_
        refine x_iadd dX9_addBytes_78 ?_
        refine x_putI fdX9_33 rfl (Or.inl rfl) dX9_addBytes_79 f1.1 f1.2 rfl rfl ?_
        refine x_iinc (v := (i3 + (-8))) (lv1 := [(3, .int (i3 + (-8))), (5, .int 1), (4, .int ((((j1 : Int64).toUInt64 >>> ((i3 : Int32).toInt64.toUInt64 &&& Int64.toUInt64 63)).toInt64 : Int64).toInt32 &&& 255)), (0, .ref 25), (1, .long j1)]) dX9_addBytes_82 4 rfl rfl (by decide) rfl ?_
        refine x_goto 3 dX9_addBytes_85 (by decide) ?_
        exact EX.sub [3, 4, 0] (k3 c1 c2 c3) rfl
    · refine x_iload dX9_addBytes_24 0 rfl ?_
      refine x_bipush (v := 32) dX9_addBytes_26 (by decide) ?_
      refine x_ic_lt 42 dX9_addBytes_28 (by decide) (fun c3 => ?_) (fun c3 => ?_)
      · refine x_iconst (v := 0) dX9_addBytes_42 (by decide) ?_
        refine x_istore (lv1 := [(5, .int 0), (4, .int ((((j1 : Int64).toUInt64 >>> ((i3 : Int32).toInt64.toUInt64 &&& Int64.toUInt64 63)).toInt64 : Int64).toInt32 &&& 255)), (0, .ref 25), (1, .long j1), (3, .int i3)]) dX9_addBytes_43 (by decide) rfl ?_
        refine x_iload dX9_addBytes_45 0 rfl ?_
        refine x_if_eq 82 dX9_addBytes_47 (by decide) (fun _ => ?_) (fun cz => absurd cz (by decide))
        refine x_iinc (v := (i3 + (-8))) (lv1 := [(3, .int (i3 + (-8))), (5, .int 0), (4, .int ((((j1 : Int64).toUInt64 >>> ((i3 : Int32).toInt64.toUInt64 &&& Int64.toUInt64 63)).toInt64 : Int64).toInt32 &&& 255)), (0, .ref 25), (1, .long j1)]) dX9_addBytes_82 4 rfl rfl (by decide) rfl ?_
        refine x_goto 3 dX9_addBytes_85 (by decide) ?_
        exact EX.sub [3, 4, 0] (k4 c1 c2 c3) rfl
      · refine x_iload dX9_addBytes_31 0 rfl ?_
        refine x_bipush (v := 126) dX9_addBytes_33 (by decide) ?_
        refine x_ic_gt 42 dX9_addBytes_35 (by decide) (fun c4 => ?_) (fun c4 => ?_)
        · refine x_iconst (v := 0) dX9_addBytes_42 (by decide) ?_
          refine x_istore (lv1 := [(5, .int 0), (4, .int ((((j1 : Int64).toUInt64 >>> ((i3 : Int32).toInt64.toUInt64 &&& Int64.toUInt64 63)).toInt64 : Int64).toInt32 &&& 255)), (0, .ref 25), (1, .long j1), (3, .int i3)]) dX9_addBytes_43 (by decide) rfl ?_
          refine x_iload dX9_addBytes_45 0 rfl ?_
          refine x_if_eq 82 dX9_addBytes_47 (by decide) (fun _ => ?_) (fun cz => absurd cz (by decide))
          refine x_iinc (v := (i3 + (-8))) (lv1 := [(3, .int (i3 + (-8))), (5, .int 0), (4, .int ((((j1 : Int64).toUInt64 >>> ((i3 : Int32).toInt64.toUInt64 &&& Int64.toUInt64 63)).toInt64 : Int64).toInt32 &&& 255)), (0, .ref 25), (1, .long j1)]) dX9_addBytes_82 4 rfl rfl (by decide) rfl ?_
          refine x_goto 3 dX9_addBytes_85 (by decide) ?_
          exact EX.sub [3, 4, 0] (k5 c1 c2 c3 c4) rfl
        · refine x_iconst (v := 1) dX9_addBytes_38 (by decide) ?_
          refine x_goto 43 dX9_addBytes_39 (by decide) ?_
          refine x_istore (lv1 := [(5, .int 1), (4, .int ((((j1 : Int64).toUInt64 >>> ((i3 : Int32).toInt64.toUInt64 &&& Int64.toUInt64 63)).toInt64 : Int64).toInt32 &&& 255)), (0, .ref 25), (1, .long j1), (3, .int i3)]) dX9_addBytes_43 (by decide) rfl ?_
          refine x_iload dX9_addBytes_45 0 rfl ?_
          refine x_if_eq 82 dX9_addBytes_47 (by decide) (fun cz => absurd cz (by decide)) (fun _ => ?_)
          refine x_aload_n dX9_addBytes_50 2 rfl ?_
          refine x_getI fdX9_33 rfl dX9_addBytes_51 f1.1 f1.2 ?_
          refine x_sipush (v := 1000) dX9_addBytes_54 (by decide) ?_
          refine x_ic_ge 82 dX9_addBytes_57 (by decide) (fun c5 => ?_) (fun c5 => ?_)
          · refine x_iinc (v := (i3 + (-8))) (lv1 := [(3, .int (i3 + (-8))), (5, .int 1), (4, .int ((((j1 : Int64).toUInt64 >>> ((i3 : Int32).toInt64.toUInt64 &&& Int64.toUInt64 63)).toInt64 : Int64).toInt32 &&& 255)), (0, .ref 25), (1, .long j1)]) dX9_addBytes_82 4 rfl rfl (by decide) rfl ?_
            refine x_goto 3 dX9_addBytes_85 (by decide) ?_
            exact EX.sub [3, 4, 0] (k6 c1 c2 c3 c4 c5) rfl
          · refine x_aload_n dX9_addBytes_60 2 rfl ?_
            refine x_getR fdX9_15 rfl dX9_addBytes_61 f1.1 f1.2 f2 ?_
            refine x_aload_n dX9_addBytes_64 2 rfl ?_
            refine x_getI fdX9_33 rfl dX9_addBytes_65 f1.1 f1.2 ?_
            refine x_iload dX9_addBytes_68 1 rfl ?_
            refine x_i2c dX9_addBytes_70 ?_
            refine x_cast dX9_addBytes_71 f3.1 f3.2 (h2 c1 c2 c3 c4 c5) ?_
            refine x_aload_n dX9_addBytes_72 2 rfl ?_
            refine x_dup dX9_addBytes_73 rfl ?_
            refine x_getI fdX9_33 rfl dX9_addBytes_74 f1.1 f1.2 ?_
            refine x_iconst (v := 1) dX9_addBytes_77 (by decide) ?_
            refine x_iadd dX9_addBytes_78 ?_
            refine x_putI fdX9_33 rfl (Or.inl rfl) dX9_addBytes_79 f1.1 f1.2 rfl rfl ?_
            refine x_iinc (v := (i3 + (-8))) (lv1 := [(3, .int (i3 + (-8))), (5, .int 1), (4, .int ((((j1 : Int64).toUInt64 >>> ((i3 : Int32).toInt64.toUInt64 &&& Int64.toUInt64 63)).toInt64 : Int64).toInt32 &&& 255)), (0, .ref 25), (1, .long j1)]) dX9_addBytes_82 4 rfl rfl (by decide) rfl ?_
            refine x_goto 3 dX9_addBytes_85 (by decide) ?_
            exact EX.sub [3, 4, 0] (k7 c1 c2 c3 c4 c5) rfl
set_option maxRecDepth 8000 in
theorem qX9_start_0 {g : GG} {d : Nat} {M : MM} {P : Option Value → MM → Prop}  {M1 : MM} {la lb pa pb rl : Nat} (L : Lay M la lb pa pb rl)
    (qM1 : M1 = wi M 25 4 0)
    (k1 : K0 g YX9_start YX9_advance d 9 [.ref 25] [] [] M1 P) :
    E0 g YX9_start d 0 [(0, .ref 25)] [] M P := by
  have f1 : ob M 25 9 := L.s rfl (by decide)
  subst qM1
  refine x_aload_n dX9_start_0 0 rfl ?_
  refine x_iconst (v := 0) dX9_start_1 (by decide) ?_
  refine x_putI fdX9_37 rfl (Or.inl rfl) dX9_start_2 f1.1 f1.2 rfl rfl ?_
  refine x_aload_n dX9_start_5 0 rfl ?_
  refine EX.sub [] (K0.v (As := []) (st := []) cvX9_40 dX9_start_6 rfl rfl f1 rfl (Nat.le_of_ble_eq_true rfl) (k1)) rfl
set_option maxRecDepth 8000 in
theorem qX9_start_9 {g : GG} {d : Nat} {M : MM} {P : Option Value → MM → Prop} 
    (k1 : P none M) :
    E0 g YX9_start d 9 [] [] M P := by
  exact x_vret rfl dX9_start_9 (Nat.le_refl _) (Nat.le_refl _) (k1)
set_option maxRecDepth 8000 in
theorem qX9_advance_0 {g : GG} {d : Nat} {M : MM} {P : Option Value → MM → Prop}  {M1 : MM} {la lb pa pb rl : Nat} (L : Lay M la lb pa pb rl)
    (qM1 : M1 = wi M 25 3 (mi M 25 4))
    (k1 : E0 g YX9_advance d 8 [(0, .ref 25)] [] M1 P) :
    E0 g YX9_advance d 0 [(0, .ref 25)] [] M P := by
  have f1 : ob M 25 9 := L.s rfl (by decide)
  subst qM1
  refine x_aload_n dX9_advance_0 0 rfl ?_
  refine x_aload_n dX9_advance_1 0 rfl ?_
  refine x_getI fdX9_37 rfl dX9_advance_2 f1.1 f1.2 ?_
  refine x_putI fdX9_43 rfl (Or.inl rfl) dX9_advance_5 f1.1 f1.2 rfl rfl ?_
  exact EX.sub [0] k1 rfl
set_option maxRecDepth 8000 in
theorem qX9_advance_8 {g : GG} {d : Nat} {M : MM} {P : Option Value → MM → Prop}  {M1 : MM} {M2 : MM} {M3 : MM} {M4 : MM} {M5 : MM} {M6 : MM} {M7 : MM} {M8 : MM} {M9 : MM} {M10 : MM} {la lb pa pb rl : Nat} (L : Lay M la lb pa pb rl)
    (qM1 : M1 = wi M 25 4 (mi M 25 3))
    (qM2 : M2 = wi M1 25 9 0)
    (qM3 : M3 = wi M2 25 7 (-1))
    (qM4 : M4 = wi M3 25 5 0)
    (qM5 : M5 = wi M 25 3 ((mi M 25 3) + 1))
    (qM6 : M6 = wi M 25 4 (mi M 25 3))
    (qM7 : M7 = wi M6 25 9 0)
    (qM8 : M8 = wi M7 25 7 (-1))
    (qM9 : M9 = wi M8 25 5 0)
    (qM10 : M10 = wi M 25 3 ((mi M 25 3) + 1))
    (h1 : (mi M 25 2) ≤ (mi M 25 3) → (mi M3 25 3) < (mi M3 25 2) → vp_in (mi M3 25 3) 1000)
    (h2 : ¬ ((mi M 25 2) ≤ (mi M 25 3)) → vp_in (mi M 25 3) 1000)
    (h3 : ¬ ((mi M 25 2) ≤ (mi M 25 3)) → ¬ ((mi M 27 ((mi M 25 3) : Int32).toNatClampNeg) = 10) → vp_in (mi M 25 3) 1000)
    (h4 : ¬ ((mi M 25 2) ≤ (mi M 25 3)) → ¬ ((mi M 27 ((mi M 25 3) : Int32).toNatClampNeg) = 10) → ¬ (mi M 27 ((mi M 25 3) : Int32).toNatClampNeg) = 32 → (mi M8 25 3) < (mi M8 25 2) → vp_in (mi M8 25 3) 1000)
    (k1 : (mi M 25 2) ≤ (mi M 25 3) → (mi M3 25 3) < (mi M3 25 2) → K0 g YX9_advance YX9_isLetter d 109 [.int (mi M3 27 ((mi M3 25 3) : Int32).toNatClampNeg)] [(0, .ref 25)] [] M3 P)
    (k2 : (mi M 25 2) ≤ (mi M 25 3) → ¬ ((mi M3 25 3) < (mi M3 25 2)) → E0 g YX9_advance d 145 [] [] M4 P)
    (k3 : ¬ ((mi M 25 2) ≤ (mi M 25 3)) → (mi M 27 ((mi M 25 3) : Int32).toNatClampNeg) = 10 → E0 g YX9_advance d 8 [(0, .ref 25)] [] M5 P)
    (k4 : ¬ ((mi M 25 2) ≤ (mi M 25 3)) → ¬ ((mi M 27 ((mi M 25 3) : Int32).toNatClampNeg) = 10) → ¬ (mi M 27 ((mi M 25 3) : Int32).toNatClampNeg) = 32 → (mi M8 25 3) < (mi M8 25 2) → K0 g YX9_advance YX9_isLetter d 109 [.int (mi M8 27 ((mi M8 25 3) : Int32).toNatClampNeg)] [(0, .ref 25)] [] M8 P)
    (k5 : ¬ ((mi M 25 2) ≤ (mi M 25 3)) → ¬ ((mi M 27 ((mi M 25 3) : Int32).toNatClampNeg) = 10) → ¬ (mi M 27 ((mi M 25 3) : Int32).toNatClampNeg) = 32 → ¬ ((mi M8 25 3) < (mi M8 25 2)) → E0 g YX9_advance d 145 [] [] M9 P)
    (k6 : ¬ ((mi M 25 2) ≤ (mi M 25 3)) → ¬ ((mi M 27 ((mi M 25 3) : Int32).toNatClampNeg) = 10) → (mi M 27 ((mi M 25 3) : Int32).toNatClampNeg) = 32 → E0 g YX9_advance d 8 [(0, .ref 25)] [] M10 P) :
    E0 g YX9_advance d 8 [(0, .ref 25)] [] M P := by
  have f1 : ob M 25 9 := L.s rfl (by decide)
  have f2 : mr M 25 1 = some 27 := L.r 33 rfl
  have f3 : ar M 27 4 1000 := L.s rfl (by decide)
  subst qM1 qM2 qM3 qM4 qM5 qM6 qM7 qM8 qM9 qM10
  let M1 : MM := wi M 25 4 (mi M 25 3)
  let M2 : MM := wi M1 25 9 0
  let M3 : MM := wi M2 25 7 (-1)
  let M4 : MM := wi M3 25 5 0
  let M5 : MM := wi M 25 3 ((mi M 25 3) + 1)
  let M6 : MM := wi M 25 4 (mi M 25 3)
  let M7 : MM := wi M6 25 9 0
  let M8 : MM := wi M7 25 7 (-1)
  let M9 : MM := wi M8 25 5 0
  let M10 : MM := wi M 25 3 ((mi M 25 3) + 1)
  refine x_aload_n dX9_advance_8 0 rfl ?_
  refine x_getI fdX9_43 rfl dX9_advance_9 f1.1 f1.2 ?_
  refine x_aload_n dX9_advance_12 0 rfl ?_
  refine x_getI fdX9_33 rfl dX9_advance_13 f1.1 f1.2 ?_
  refine x_ic_ge 60 dX9_advance_16 (by decide) (fun c1 => ?_) (fun c1 => ?_)
  · refine x_aload_n dX9_advance_60 0 rfl ?_
    refine x_aload_n dX9_advance_61 0 rfl ?_
    refine x_getI fdX9_43 rfl dX9_advance_62 f1.1 f1.2 ?_
    refine x_putI fdX9_37 rfl (Or.inl rfl) dX9_advance_65 f1.1 f1.2 rfl rfl ?_
    refine x_aload_n dX9_advance_68 0 rfl ?_
    refine x_iconst (v := 0) dX9_advance_69 (by decide) ?_
    refine x_putI fdX9_46 rfl (Or.inl rfl) dX9_advance_70 f1.1 f1.2 (by decide) (by decide) ?_
    refine x_aload_n dX9_advance_73 0 rfl ?_
    refine x_iconst (v := (-1)) dX9_advance_74 (by decide) ?_
    refine x_putI fdX9_50 rfl (Or.inl rfl) dX9_advance_75 f1.1 f1.2 rfl rfl ?_
    refine x_aload_n dX9_advance_78 0 rfl ?_
    refine x_getI fdX9_43 rfl dX9_advance_79 f1.1 f1.2 ?_
    refine x_aload_n dX9_advance_82 0 rfl ?_
    refine x_getI fdX9_33 rfl dX9_advance_83 f1.1 f1.2 ?_
    refine x_ic_lt 97 dX9_advance_86 (by decide) (fun c2 => ?_) (fun c2 => ?_)
    · refine x_aload_n dX9_advance_97 0 rfl ?_
      refine x_getR fdX9_15 rfl dX9_advance_98 f1.1 f1.2 f2 ?_
      refine x_aload_n dX9_advance_101 0 rfl ?_
      refine x_getI fdX9_43 rfl dX9_advance_102 f1.1 f1.2 ?_
      refine x_cald dX9_advance_105 f3.1 f3.2 (h1 c1 c2) ?_
      refine EX.sub [0] (K0.s (As := [.int (mi M3 27 ((mi M3 25 3) : Int32).toNatClampNeg)]) (st := []) csX9_56 dX9_advance_106 rfl rfl (Nat.le_of_ble_eq_true rfl) (k1 c1 c2)) rfl
    · refine x_aload_n dX9_advance_89 0 rfl ?_
      refine x_iconst (v := 0) dX9_advance_90 (by decide) ?_
      refine x_putI fdX9_53 rfl (Or.inl rfl) dX9_advance_91 f1.1 f1.2 rfl rfl ?_
      refine x_goto 145 dX9_advance_94 (by decide) ?_
      exact EX.sub [] (k2 c1 c2) rfl
  · refine x_aload_n dX9_advance_19 0 rfl ?_
    refine x_getR fdX9_15 rfl dX9_advance_20 f1.1 f1.2 f2 ?_
    refine x_aload_n dX9_advance_23 0 rfl ?_
    refine x_getI fdX9_43 rfl dX9_advance_24 f1.1 f1.2 ?_
    refine x_cald dX9_advance_27 f3.1 f3.2 (h2 c1) ?_
    refine x_bipush (v := 10) dX9_advance_28 (by decide) ?_
    refine x_ic_eq 47 dX9_advance_30 (by decide) (fun c2 => ?_) (fun c2 => ?_)
    · refine x_aload_n dX9_advance_47 0 rfl ?_
      refine x_dup dX9_advance_48 rfl ?_
      refine x_getI fdX9_43 rfl dX9_advance_49 f1.1 f1.2 ?_
      refine x_iconst (v := 1) dX9_advance_52 (by decide) ?_
      refine x_iadd dX9_advance_53 ?_
      refine x_putI fdX9_43 rfl (Or.inl rfl) dX9_advance_54 f1.1 f1.2 rfl rfl ?_
      refine x_goto 8 dX9_advance_57 (by decide) ?_
      exact EX.sub [0] (k3 c1 c2) rfl
    · refine x_aload_n dX9_advance_33 0 rfl ?_
      refine x_getR fdX9_15 rfl dX9_advance_34 f1.1 f1.2 f2 ?_
      refine x_aload_n dX9_advance_37 0 rfl ?_
      refine x_getI fdX9_43 rfl dX9_advance_38 f1.1 f1.2 ?_
      refine x_cald dX9_advance_41 f3.1 f3.2 (h3 c1 c2) ?_
      refine x_bipush (v := 32) dX9_advance_42 (by decide) ?_
      refine x_ic_ne 60 dX9_advance_44 (by decide) (fun c3 => ?_) (fun c3 => ?_)
      · refine x_aload_n dX9_advance_60 0 rfl ?_
        refine x_aload_n dX9_advance_61 0 rfl ?_
        refine x_getI fdX9_43 rfl dX9_advance_62 f1.1 f1.2 ?_
        refine x_putI fdX9_37 rfl (Or.inl rfl) dX9_advance_65 f1.1 f1.2 rfl rfl ?_
        refine x_aload_n dX9_advance_68 0 rfl ?_
        refine x_iconst (v := 0) dX9_advance_69 (by decide) ?_
        refine x_putI fdX9_46 rfl (Or.inl rfl) dX9_advance_70 f1.1 f1.2 (by decide) (by decide) ?_
        refine x_aload_n dX9_advance_73 0 rfl ?_
        refine x_iconst (v := (-1)) dX9_advance_74 (by decide) ?_
        refine x_putI fdX9_50 rfl (Or.inl rfl) dX9_advance_75 f1.1 f1.2 rfl rfl ?_
        refine x_aload_n dX9_advance_78 0 rfl ?_
        refine x_getI fdX9_43 rfl dX9_advance_79 f1.1 f1.2 ?_
        refine x_aload_n dX9_advance_82 0 rfl ?_
        refine x_getI fdX9_33 rfl dX9_advance_83 f1.1 f1.2 ?_
        refine x_ic_lt 97 dX9_advance_86 (by decide) (fun c4 => ?_) (fun c4 => ?_)
        · refine x_aload_n dX9_advance_97 0 rfl ?_
          refine x_getR fdX9_15 rfl dX9_advance_98 f1.1 f1.2 f2 ?_
          refine x_aload_n dX9_advance_101 0 rfl ?_
          refine x_getI fdX9_43 rfl dX9_advance_102 f1.1 f1.2 ?_
          refine x_cald dX9_advance_105 f3.1 f3.2 (h4 c1 c2 c3 c4) ?_
          refine EX.sub [0] (K0.s (As := [.int (mi M8 27 ((mi M8 25 3) : Int32).toNatClampNeg)]) (st := []) csX9_56 dX9_advance_106 rfl rfl (Nat.le_of_ble_eq_true rfl) (k4 c1 c2 c3 c4)) rfl
        · refine x_aload_n dX9_advance_89 0 rfl ?_
          refine x_iconst (v := 0) dX9_advance_90 (by decide) ?_
          refine x_putI fdX9_53 rfl (Or.inl rfl) dX9_advance_91 f1.1 f1.2 rfl rfl ?_
          refine x_goto 145 dX9_advance_94 (by decide) ?_
          exact EX.sub [] (k5 c1 c2 c3 c4) rfl
      · refine x_aload_n dX9_advance_47 0 rfl ?_
        refine x_dup dX9_advance_48 rfl ?_
        refine x_getI fdX9_43 rfl dX9_advance_49 f1.1 f1.2 ?_
        refine x_iconst (v := 1) dX9_advance_52 (by decide) ?_
        refine x_iadd dX9_advance_53 ?_
        refine x_putI fdX9_43 rfl (Or.inl rfl) dX9_advance_54 f1.1 f1.2 rfl rfl ?_
        refine x_goto 8 dX9_advance_57 (by decide) ?_
        exact EX.sub [0] (k6 c1 c2 c3) rfl
set_option maxRecDepth 8000 in
theorem qX9_advance_109 {g : GG} {d : Nat} {M : MM} {P : Option Value → MM → Prop} {s0 : Int32} {la lb pa pb rl : Nat} (L : Lay M la lb pa pb rl)
    (h1 : s0 = 0 → vp_in (mi M 25 3) 1000)
    (k1 : s0 = 0 → K0 g YX9_advance YX9_isDigit d 131 [.int (mi M 27 ((mi M 25 3) : Int32).toNatClampNeg)] [(0, .ref 25)] [] M P)
    (k2 : ¬ (s0 = 0) → K0 g YX9_advance YX9_takeWord d 116 [.ref 25] [] [] M P) :
    E0 g YX9_advance d 109 [(0, .ref 25)] [.int s0] M P := by
  have f1 : ob M 25 9 := L.s rfl (by decide)
  have f2 : mr M 25 1 = some 27 := L.r 33 rfl
  have f3 : ar M 27 4 1000 := L.s rfl (by decide)
  refine x_if_eq 119 dX9_advance_109 (by decide) (fun c1 => ?_) (fun c1 => ?_)
  · refine x_aload_n dX9_advance_119 0 rfl ?_
    refine x_getR fdX9_15 rfl dX9_advance_120 f1.1 f1.2 f2 ?_
    refine x_aload_n dX9_advance_123 0 rfl ?_
    refine x_getI fdX9_43 rfl dX9_advance_124 f1.1 f1.2 ?_
    refine x_cald dX9_advance_127 f3.1 f3.2 (h1 c1) ?_
    refine EX.sub [0] (K0.s (As := [.int (mi M 27 ((mi M 25 3) : Int32).toNatClampNeg)]) (st := []) csX9_63 dX9_advance_128 rfl rfl (Nat.le_of_ble_eq_true rfl) (k1 c1)) rfl
  · refine x_aload_n dX9_advance_112 0 rfl ?_
    refine EX.sub [] (K0.v (As := []) (st := []) cvX9_60 dX9_advance_113 rfl rfl f1 rfl (Nat.le_of_ble_eq_true rfl) (k2 c1)) rfl
set_option maxRecDepth 8000 in
theorem qX9_advance_116 {g : GG} {d : Nat} {M : MM} {P : Option Value → MM → Prop} 
    (k1 : E0 g YX9_advance d 145 [] [] M P) :
    E0 g YX9_advance d 116 [] [] M P := by
  refine x_goto 145 dX9_advance_116 (by decide) ?_
  exact EX.sub [] k1 rfl
set_option maxRecDepth 8000 in
theorem qX9_advance_131 {g : GG} {d : Nat} {M : MM} {P : Option Value → MM → Prop} {s0 : Int32} {la lb pa pb rl : Nat} (L : Lay M la lb pa pb rl)
    (k1 : s0 = 0 → K0 g YX9_advance YX9_takeSign d 145 [.ref 25] [] [] M P)
    (k2 : ¬ (s0 = 0) → K0 g YX9_advance YX9_takeNumber d 138 [.ref 25] [] [] M P) :
    E0 g YX9_advance d 131 [(0, .ref 25)] [.int s0] M P := by
  have f1 : ob M 25 9 := L.s rfl (by decide)
  refine x_if_eq 141 dX9_advance_131 (by decide) (fun c1 => ?_) (fun c1 => ?_)
  · refine x_aload_n dX9_advance_141 0 rfl ?_
    refine EX.sub [] (K0.v (As := []) (st := []) cvX9_69 dX9_advance_142 rfl rfl f1 rfl (Nat.le_of_ble_eq_true rfl) (k1 c1)) rfl
  · refine x_aload_n dX9_advance_134 0 rfl ?_
    refine EX.sub [] (K0.v (As := []) (st := []) cvX9_66 dX9_advance_135 rfl rfl f1 rfl (Nat.le_of_ble_eq_true rfl) (k2 c1)) rfl
set_option maxRecDepth 8000 in
theorem qX9_advance_138 {g : GG} {d : Nat} {M : MM} {P : Option Value → MM → Prop} 
    (k1 : E0 g YX9_advance d 145 [] [] M P) :
    E0 g YX9_advance d 138 [] [] M P := by
  refine x_goto 145 dX9_advance_138 (by decide) ?_
  exact EX.sub [] k1 rfl
set_option maxRecDepth 8000 in
theorem qX9_advance_145 {g : GG} {d : Nat} {M : MM} {P : Option Value → MM → Prop} 
    (k1 : P none M) :
    E0 g YX9_advance d 145 [] [] M P := by
  exact x_vret rfl dX9_advance_145 (Nat.le_refl _) (Nat.le_refl _) (k1)
set_option maxRecDepth 8000 in
theorem qX9_takeWord_0 {g : GG} {d : Nat} {M : MM} {P : Option Value → MM → Prop}  {M1 : MM} {la lb pa pb rl : Nat} (L : Lay M la lb pa pb rl)
    (qM1 : M1 = wj M 25 6 0)
    (k1 : E0 g YX9_takeWord d 5 [(0, .ref 25)] [] M1 P) :
    E0 g YX9_takeWord d 0 [(0, .ref 25)] [] M P := by
  have f1 : ob M 25 9 := L.s rfl (by decide)
  subst qM1
  refine x_aload_n dX9_takeWord_0 0 rfl ?_
  refine x_lconst (v := 0) dX9_takeWord_1 (by decide) ?_
  refine x_putJ fdX9_72 rfl (Or.inl rfl) dX9_takeWord_2 f1.1 f1.2 ?_
  exact EX.sub [0] k1 rfl
set_option maxRecDepth 8000 in
theorem qX9_takeWord_5 {g : GG} {d : Nat} {M : MM} {P : Option Value → MM → Prop}  {M1 : MM} {M2 : MM} {la lb pa pb rl : Nat} (L : Lay M la lb pa pb rl)
    (qM1 : M1 = wi M 25 5 1)
    (qM2 : M2 = wi M 25 5 4)
    (h1 : ¬ ((mi M 25 2) ≤ (mi M 25 4)) → vp_in (mi M 25 4) 1000)
    (k1 : (mi M 25 2) ≤ (mi M 25 4) → ((mi M 25 4) - (mi M 25 3)) ≤ 8 → E0 g YX9_takeWord d 97 [(0, .ref 25), (1, .int 0)] [] M1 P)
    (k2 : (mi M 25 2) ≤ (mi M 25 4) → ¬ (((mi M 25 4) - (mi M 25 3)) ≤ 8) → E0 g YX9_takeWord d 97 [(0, .ref 25), (1, .int 0)] [] M2 P)
    (k3 : ¬ ((mi M 25 2) ≤ (mi M 25 4)) → K0 g YX9_takeWord YX9_isLetter d 28 [.int (mi M 27 ((mi M 25 4) : Int32).toNatClampNeg)] [(0, .ref 25)] [] M P) :
    E0 g YX9_takeWord d 5 [(0, .ref 25)] [] M P := by
  have f1 : ob M 25 9 := L.s rfl (by decide)
  have f2 : mr M 25 1 = some 27 := L.r 33 rfl
  have f3 : ar M 27 4 1000 := L.s rfl (by decide)
  subst qM1 qM2
  refine x_aload_n dX9_takeWord_5 0 rfl ?_
  refine x_getI fdX9_37 rfl dX9_takeWord_6 f1.1 f1.2 ?_
  refine x_aload_n dX9_takeWord_9 0 rfl ?_
  refine x_getI fdX9_33 rfl dX9_takeWord_10 f1.1 f1.2 ?_
  refine x_ic_ge 72 dX9_takeWord_13 (by decide) (fun c1 => ?_) (fun c1 => ?_)
  · refine x_aload_n dX9_takeWord_72 0 rfl ?_
    refine x_aload_n dX9_takeWord_73 0 rfl ?_
    refine x_getI fdX9_37 rfl dX9_takeWord_74 f1.1 f1.2 ?_
    refine x_aload_n dX9_takeWord_77 0 rfl ?_
    refine x_getI fdX9_43 rfl dX9_takeWord_78 f1.1 f1.2 ?_
    refine x_isub dX9_takeWord_81 ?_
    refine x_bipush (v := 8) dX9_takeWord_82 (by decide) ?_
    refine x_ic_le 91 dX9_takeWord_84 (by decide) (fun c2 => ?_) (fun c2 => ?_)
    · refine x_iconst (v := 1) dX9_takeWord_91 (by decide) ?_
      refine x_putI fdX9_53 rfl (Or.inl rfl) dX9_takeWord_92 f1.1 f1.2 rfl rfl ?_
      refine x_iconst (v := 0) dX9_takeWord_95 (by decide) ?_
      refine x_istore_n (lv1 := [(1, .int 0), (0, .ref 25)]) dX9_takeWord_96 (by decide) rfl ?_
      exact EX.sub [1, 0] (k1 c1 c2) rfl
    · refine x_iconst (v := 4) dX9_takeWord_87 (by decide) ?_
      refine x_goto 92 dX9_takeWord_88 (by decide) ?_
      refine x_putI fdX9_53 rfl (Or.inl rfl) dX9_takeWord_92 f1.1 f1.2 rfl rfl ?_
      refine x_iconst (v := 0) dX9_takeWord_95 (by decide) ?_
      refine x_istore_n (lv1 := [(1, .int 0), (0, .ref 25)]) dX9_takeWord_96 (by decide) rfl ?_
      exact EX.sub [1, 0] (k2 c1 c2) rfl
  · refine x_aload_n dX9_takeWord_16 0 rfl ?_
    refine x_getR fdX9_15 rfl dX9_takeWord_17 f1.1 f1.2 f2 ?_
    refine x_aload_n dX9_takeWord_20 0 rfl ?_
    refine x_getI fdX9_37 rfl dX9_takeWord_21 f1.1 f1.2 ?_
    refine x_cald dX9_takeWord_24 f3.1 f3.2 (h1 c1) ?_
    refine EX.sub [0] (K0.s (As := [.int (mi M 27 ((mi M 25 4) : Int32).toNatClampNeg)]) (st := []) csX9_56 dX9_takeWord_25 rfl rfl (Nat.le_of_ble_eq_true rfl) (k3 c1)) rfl
set_option maxRecDepth 8000 in
theorem qX9_takeWord_28 {g : GG} {d : Nat} {M : MM} {P : Option Value → MM → Prop} {s0 : Int32} {M1 : MM} {M2 : MM} {M3 : MM} {M4 : MM} {la lb pa pb rl : Nat} (L : Lay M la lb pa pb rl)
    (qM1 : M1 = wi M 25 5 1)
    (qM2 : M2 = wi M 25 5 4)
    (qM3 : M3 = wj M 25 6 (((mj M 25 6) * (32)) + ((((mi M 27 ((mi M 25 4) : Int32).toNatClampNeg) - 97) + 1) : Int32).toInt64))
    (qM4 : M4 = wi M3 25 4 ((mi M 25 4) + 1))
    (h1 : ¬ (s0 = 0) → vp_in (mi M 25 4) 1000)
    (k1 : s0 = 0 → ((mi M 25 4) - (mi M 25 3)) ≤ 8 → E0 g YX9_takeWord d 97 [(0, .ref 25), (1, .int 0)] [] M1 P)
    (k2 : s0 = 0 → ¬ (((mi M 25 4) - (mi M 25 3)) ≤ 8) → E0 g YX9_takeWord d 97 [(0, .ref 25), (1, .int 0)] [] M2 P)
    (k3 : ¬ (s0 = 0) → E0 g YX9_takeWord d 5 [(0, .ref 25)] [] M4 P) :
    E0 g YX9_takeWord d 28 [(0, .ref 25)] [.int s0] M P := by
  have f1 : ob M 25 9 := L.s rfl (by decide)
  have f2 : mr M 25 1 = some 27 := L.r 33 rfl
  have f3 : ar M 27 4 1000 := L.s rfl (by decide)
  subst qM1 qM2 qM3 qM4
  refine x_if_eq 72 dX9_takeWord_28 (by decide) (fun c1 => ?_) (fun c1 => ?_)
  · refine x_aload_n dX9_takeWord_72 0 rfl ?_
    refine x_aload_n dX9_takeWord_73 0 rfl ?_
    refine x_getI fdX9_37 rfl dX9_takeWord_74 f1.1 f1.2 ?_
    refine x_aload_n dX9_takeWord_77 0 rfl ?_
    refine x_getI fdX9_43 rfl dX9_takeWord_78 f1.1 f1.2 ?_
    refine x_isub dX9_takeWord_81 ?_
    refine x_bipush (v := 8) dX9_takeWord_82 (by decide) ?_
    refine x_ic_le 91 dX9_takeWord_84 (by decide) (fun c2 => ?_) (fun c2 => ?_)
    · refine x_iconst (v := 1) dX9_takeWord_91 (by decide) ?_
      refine x_putI fdX9_53 rfl (Or.inl rfl) dX9_takeWord_92 f1.1 f1.2 rfl rfl ?_
      refine x_iconst (v := 0) dX9_takeWord_95 (by decide) ?_
      refine x_istore_n (lv1 := [(1, .int 0), (0, .ref 25)]) dX9_takeWord_96 (by decide) rfl ?_
      exact EX.sub [1, 0] (k1 c1 c2) rfl
    · refine x_iconst (v := 4) dX9_takeWord_87 (by decide) ?_
      refine x_goto 92 dX9_takeWord_88 (by decide) ?_
      refine x_putI fdX9_53 rfl (Or.inl rfl) dX9_takeWord_92 f1.1 f1.2 rfl rfl ?_
      refine x_iconst (v := 0) dX9_takeWord_95 (by decide) ?_
      refine x_istore_n (lv1 := [(1, .int 0), (0, .ref 25)]) dX9_takeWord_96 (by decide) rfl ?_
      exact EX.sub [1, 0] (k2 c1 c2) rfl
  · refine x_aload_n dX9_takeWord_31 0 rfl ?_
    refine x_aload_n dX9_takeWord_32 0 rfl ?_
    refine x_getJ fdX9_72 rfl dX9_takeWord_33 f1.1 f1.2 ?_
    refine x_ldc2 dX9_takeWord_36 kcX9_31 ?_
    refine x_lmul dX9_takeWord_39 ?_
    refine x_aload_n dX9_takeWord_40 0 rfl ?_
    refine x_getR fdX9_15 rfl dX9_takeWord_41 f1.1 f1.2 f2 ?_
    refine x_aload_n dX9_takeWord_44 0 rfl ?_
    refine x_getI fdX9_37 rfl dX9_takeWord_45 f1.1 f1.2 ?_
    refine x_cald dX9_takeWord_48 f3.1 f3.2 (h1 c1) ?_
    refine x_bipush (v := 97) dX9_takeWord_49 (by decide) ?_
    refine x_isub dX9_takeWord_51 ?_
    refine x_iconst (v := 1) dX9_takeWord_52 (by decide) ?_
    refine x_iadd dX9_takeWord_53 ?_
    refine x_i2l dX9_takeWord_54 ?_
    refine x_ladd dX9_takeWord_55 ?_
    refine x_putJ fdX9_72 rfl (Or.inl rfl) dX9_takeWord_56 f1.1 f1.2 ?_
    refine x_aload_n dX9_takeWord_59 0 rfl ?_
    refine x_dup dX9_takeWord_60 rfl ?_
    refine x_getI fdX9_37 rfl dX9_takeWord_61 f1.1 f1.2 ?_
    refine x_iconst (v := 1) dX9_takeWord_64 (by decide) ?_
    refine x_iadd dX9_takeWord_65 ?_
    refine x_putI fdX9_37 rfl (Or.inl rfl) dX9_takeWord_66 f1.1 f1.2 rfl rfl ?_
    refine x_goto 5 dX9_takeWord_69 (by decide) ?_
    exact EX.sub [0] (k3 c1) rfl
set_option maxRecDepth 8000 in
theorem qX9_takeWord_97 {g : GG} {d : Nat} {M : MM} {P : Option Value → MM → Prop} {i1 : Int32} {M1 : MM} {la lb pa pb rl : Nat} (L : Lay M la lb pa pb rl)
    (qM1 : M1 = wi M 25 7 i1)
    (h1 : ¬ (21 ≤ i1) → (mi M 25 5) = 1 → (mi M 25 7) = (-1) → vp_in i1 21)
    (k1 : 21 ≤ i1 → P none M)
    (k2 : ¬ (21 ≤ i1) → ¬ (mi M 25 5) = 1 → P none M)
    (k3 : ¬ (21 ≤ i1) → (mi M 25 5) = 1 → ¬ (mi M 25 7) = (-1) → P none M)
    (k4 : ¬ (21 ≤ i1) → (mi M 25 5) = 1 → (mi M 25 7) = (-1) → ¬ (lg_cmp (mj M 26 (i1 : Int32).toNatClampNeg) (mj M 25 6)) = 0 → E0 g YX9_takeWord d 97 [(0, .ref 25), (1, .int (i1 + 1))] [] M P)
    (k5 : ¬ (21 ≤ i1) → (mi M 25 5) = 1 → (mi M 25 7) = (-1) → (lg_cmp (mj M 26 (i1 : Int32).toNatClampNeg) (mj M 25 6)) = 0 → E0 g YX9_takeWord d 97 [(0, .ref 25), (1, .int (i1 + 1))] [] M1 P) :
    E0 g YX9_takeWord d 97 [(0, .ref 25), (1, .int i1)] [] M P := by
  have f1 : ob M 25 9 := L.s rfl (by decide)
  have f2 : mr M 25 0 = some 26 := L.r 32 rfl
  have f3 : ar M 26 2 21 := L.s rfl (by decide)
  subst qM1
  refine x_iload_n dX9_takeWord_97 1 rfl ?_
  refine x_bipush (v := 21) dX9_takeWord_98 (by decide) ?_
  refine x_ic_ge 144 dX9_takeWord_100 (by decide) (fun c1 => ?_) (fun c1 => ?_)
  · exact x_vret rfl dX9_takeWord_144 (Nat.le_refl _) (Nat.le_refl _) (k1 c1)
  · refine x_aload_n dX9_takeWord_103 0 rfl ?_
    refine x_getI fdX9_53 rfl dX9_takeWord_104 f1.1 f1.2 ?_
    refine x_iconst (v := 1) dX9_takeWord_107 (by decide) ?_
    refine x_ic_ne 144 dX9_takeWord_108 (by decide) (fun c2 => ?_) (fun c2 => ?_)
    · exact x_vret rfl dX9_takeWord_144 (Nat.le_refl _) (Nat.le_refl _) (k2 c1 c2)
    · refine x_aload_n dX9_takeWord_111 0 rfl ?_
      refine x_getI fdX9_50 rfl dX9_takeWord_112 f1.1 f1.2 ?_
      refine x_iconst (v := (-1)) dX9_takeWord_115 (by decide) ?_
      refine x_ic_ne 144 dX9_takeWord_116 (by decide) (fun c3 => ?_) (fun c3 => ?_)
      · exact x_vret rfl dX9_takeWord_144 (Nat.le_refl _) (Nat.le_refl _) (k3 c1 c2 c3)
      · refine x_aload_n dX9_takeWord_119 0 rfl ?_
        refine x_getR fdX9_11 rfl dX9_takeWord_120 f1.1 f1.2 f2 ?_
        refine x_iload_n dX9_takeWord_123 1 rfl ?_
        refine x_lald dX9_takeWord_124 f3.1 f3.2 (h1 c1 c2 c3) ?_
        refine x_aload_n dX9_takeWord_125 0 rfl ?_
        refine x_getJ fdX9_72 rfl dX9_takeWord_126 f1.1 f1.2 ?_
        refine x_lcmp dX9_takeWord_129 ?_
        refine x_if_ne 138 dX9_takeWord_130 (by decide) (fun c4 => ?_) (fun c4 => ?_)
        · refine x_iinc (v := (i1 + 1)) (lv1 := [(1, .int (i1 + 1)), (0, .ref 25)]) dX9_takeWord_138 1 rfl rfl (by decide) rfl ?_
          refine x_goto 97 dX9_takeWord_141 (by decide) ?_
          exact EX.sub [1, 0] (k4 c1 c2 c3 c4) rfl
        · refine x_aload_n dX9_takeWord_133 0 rfl ?_
          refine x_iload_n dX9_takeWord_134 1 rfl ?_
          refine x_putI fdX9_50 rfl (Or.inl rfl) dX9_takeWord_135 f1.1 f1.2 rfl rfl ?_
          refine x_iinc (v := (i1 + 1)) (lv1 := [(1, .int (i1 + 1)), (0, .ref 25)]) dX9_takeWord_138 1 rfl rfl (by decide) rfl ?_
          refine x_goto 97 dX9_takeWord_141 (by decide) ?_
          exact EX.sub [1, 0] (k5 c1 c2 c3 c4) rfl
set_option maxRecDepth 8000 in
theorem qX9_takeNumber_0 {g : GG} {d : Nat} {M : MM} {P : Option Value → MM → Prop}  {M1 : MM} {la lb pa pb rl : Nat} (L : Lay M la lb pa pb rl)
    (qM1 : M1 = wi M 25 8 0)
    (k1 : E0 g YX9_takeNumber d 5 [(0, .ref 25)] [] M1 P) :
    E0 g YX9_takeNumber d 0 [(0, .ref 25)] [] M P := by
  have f1 : ob M 25 9 := L.s rfl (by decide)
  subst qM1
  refine x_aload_n dX9_takeNumber_0 0 rfl ?_
  refine x_iconst (v := 0) dX9_takeNumber_1 (by decide) ?_
  refine x_putI fdX9_76 rfl (Or.inl rfl) dX9_takeNumber_2 f1.1 f1.2 rfl rfl ?_
  exact EX.sub [0] k1 rfl
set_option maxRecDepth 8000 in
theorem qX9_takeNumber_5 {g : GG} {d : Nat} {M : MM} {P : Option Value → MM → Prop}  {M1 : MM} {M2 : MM} {la lb pa pb rl : Nat} (L : Lay M la lb pa pb rl)
    (qM1 : M1 = wi M 25 5 2)
    (qM2 : M2 = wi M 25 5 4)
    (h1 : ¬ ((mi M 25 2) ≤ (mi M 25 4)) → vp_in (mi M 25 4) 1000)
    (k1 : (mi M 25 2) ≤ (mi M 25 4) → ((mi M 25 4) - (mi M 25 3)) ≤ 4 → P none M1)
    (k2 : (mi M 25 2) ≤ (mi M 25 4) → ¬ (((mi M 25 4) - (mi M 25 3)) ≤ 4) → P none M2)
    (k3 : ¬ ((mi M 25 2) ≤ (mi M 25 4)) → K0 g YX9_takeNumber YX9_isDigit d 28 [.int (mi M 27 ((mi M 25 4) : Int32).toNatClampNeg)] [(0, .ref 25)] [] M P) :
    E0 g YX9_takeNumber d 5 [(0, .ref 25)] [] M P := by
  have f1 : ob M 25 9 := L.s rfl (by decide)
  have f2 : mr M 25 1 = some 27 := L.r 33 rfl
  have f3 : ar M 27 4 1000 := L.s rfl (by decide)
  subst qM1 qM2
  refine x_aload_n dX9_takeNumber_5 0 rfl ?_
  refine x_getI fdX9_37 rfl dX9_takeNumber_6 f1.1 f1.2 ?_
  refine x_aload_n dX9_takeNumber_9 0 rfl ?_
  refine x_getI fdX9_33 rfl dX9_takeNumber_10 f1.1 f1.2 ?_
  refine x_ic_ge 68 dX9_takeNumber_13 (by decide) (fun c1 => ?_) (fun c1 => ?_)
  · refine x_aload_n dX9_takeNumber_68 0 rfl ?_
    refine x_aload_n dX9_takeNumber_69 0 rfl ?_
    refine x_getI fdX9_37 rfl dX9_takeNumber_70 f1.1 f1.2 ?_
    refine x_aload_n dX9_takeNumber_73 0 rfl ?_
    refine x_getI fdX9_43 rfl dX9_takeNumber_74 f1.1 f1.2 ?_
    refine x_isub dX9_takeNumber_77 ?_
    refine x_iconst (v := 4) dX9_takeNumber_78 (by decide) ?_
    refine x_ic_le 86 dX9_takeNumber_79 (by decide) (fun c2 => ?_) (fun c2 => ?_)
    · refine x_iconst (v := 2) dX9_takeNumber_86 (by decide) ?_
      refine x_putI fdX9_53 rfl (Or.inl rfl) dX9_takeNumber_87 f1.1 f1.2 rfl rfl ?_
      exact x_vret rfl dX9_takeNumber_90 (Nat.le_refl _) (Nat.le_refl _) (k1 c1 c2)
    · refine x_iconst (v := 4) dX9_takeNumber_82 (by decide) ?_
      refine x_goto 87 dX9_takeNumber_83 (by decide) ?_
      refine x_putI fdX9_53 rfl (Or.inl rfl) dX9_takeNumber_87 f1.1 f1.2 rfl rfl ?_
      exact x_vret rfl dX9_takeNumber_90 (Nat.le_refl _) (Nat.le_refl _) (k2 c1 c2)
  · refine x_aload_n dX9_takeNumber_16 0 rfl ?_
    refine x_getR fdX9_15 rfl dX9_takeNumber_17 f1.1 f1.2 f2 ?_
    refine x_aload_n dX9_takeNumber_20 0 rfl ?_
    refine x_getI fdX9_37 rfl dX9_takeNumber_21 f1.1 f1.2 ?_
    refine x_cald dX9_takeNumber_24 f3.1 f3.2 (h1 c1) ?_
    refine EX.sub [0] (K0.s (As := [.int (mi M 27 ((mi M 25 4) : Int32).toNatClampNeg)]) (st := []) csX9_63 dX9_takeNumber_25 rfl rfl (Nat.le_of_ble_eq_true rfl) (k3 c1)) rfl
set_option maxRecDepth 8000 in
theorem qX9_takeNumber_28 {g : GG} {d : Nat} {M : MM} {P : Option Value → MM → Prop} {s0 : Int32} {M1 : MM} {M2 : MM} {M3 : MM} {M4 : MM} {la lb pa pb rl : Nat} (L : Lay M la lb pa pb rl)
    (qM1 : M1 = wi M 25 5 2)
    (qM2 : M2 = wi M 25 5 4)
    (qM3 : M3 = wi M 25 8 (((mi M 25 8) * 10) + ((mi M 27 ((mi M 25 4) : Int32).toNatClampNeg) - 48)))
    (qM4 : M4 = wi M3 25 4 ((mi M3 25 4) + 1))
    (h1 : ¬ (s0 = 0) → vp_in (mi M 25 4) 1000)
    (k1 : s0 = 0 → ((mi M 25 4) - (mi M 25 3)) ≤ 4 → P none M1)
    (k2 : s0 = 0 → ¬ (((mi M 25 4) - (mi M 25 3)) ≤ 4) → P none M2)
    (k3 : ¬ (s0 = 0) → E0 g YX9_takeNumber d 5 [(0, .ref 25)] [] M4 P) :
    E0 g YX9_takeNumber d 28 [(0, .ref 25)] [.int s0] M P := by
  have f1 : ob M 25 9 := L.s rfl (by decide)
  have f2 : mr M 25 1 = some 27 := L.r 33 rfl
  have f3 : ar M 27 4 1000 := L.s rfl (by decide)
  subst qM1 qM2 qM3 qM4
  refine x_if_eq 68 dX9_takeNumber_28 (by decide) (fun c1 => ?_) (fun c1 => ?_)
  · refine x_aload_n dX9_takeNumber_68 0 rfl ?_
    refine x_aload_n dX9_takeNumber_69 0 rfl ?_
    refine x_getI fdX9_37 rfl dX9_takeNumber_70 f1.1 f1.2 ?_
    refine x_aload_n dX9_takeNumber_73 0 rfl ?_
    refine x_getI fdX9_43 rfl dX9_takeNumber_74 f1.1 f1.2 ?_
    refine x_isub dX9_takeNumber_77 ?_
    refine x_iconst (v := 4) dX9_takeNumber_78 (by decide) ?_
    refine x_ic_le 86 dX9_takeNumber_79 (by decide) (fun c2 => ?_) (fun c2 => ?_)
    · refine x_iconst (v := 2) dX9_takeNumber_86 (by decide) ?_
      refine x_putI fdX9_53 rfl (Or.inl rfl) dX9_takeNumber_87 f1.1 f1.2 rfl rfl ?_
      exact x_vret rfl dX9_takeNumber_90 (Nat.le_refl _) (Nat.le_refl _) (k1 c1 c2)
    · refine x_iconst (v := 4) dX9_takeNumber_82 (by decide) ?_
      refine x_goto 87 dX9_takeNumber_83 (by decide) ?_
      refine x_putI fdX9_53 rfl (Or.inl rfl) dX9_takeNumber_87 f1.1 f1.2 rfl rfl ?_
      exact x_vret rfl dX9_takeNumber_90 (Nat.le_refl _) (Nat.le_refl _) (k2 c1 c2)
  · refine x_aload_n dX9_takeNumber_31 0 rfl ?_
    refine x_aload_n dX9_takeNumber_32 0 rfl ?_
    refine x_getI fdX9_76 rfl dX9_takeNumber_33 f1.1 f1.2 ?_
    refine x_bipush (v := 10) dX9_takeNumber_36 (by decide) ?_
    refine x_imul dX9_takeNumber_38 ?_
    refine x_aload_n dX9_takeNumber_39 0 rfl ?_
    refine x_getR fdX9_15 rfl dX9_takeNumber_40 f1.1 f1.2 f2 ?_
    refine x_aload_n dX9_takeNumber_43 0 rfl ?_
    refine x_getI fdX9_37 rfl dX9_takeNumber_44 f1.1 f1.2 ?_
    refine x_cald dX9_takeNumber_47 f3.1 f3.2 (h1 c1) ?_
    refine x_bipush (v := 48) dX9_takeNumber_48 (by decide) ?_
    refine x_isub dX9_takeNumber_50 ?_
    refine x_iadd dX9_takeNumber_51 ?_
    refine x_putI fdX9_76 rfl (Or.inl rfl) dX9_takeNumber_52 f1.1 f1.2 rfl rfl ?_
    refine x_aload_n dX9_takeNumber_55 0 rfl ?_
    refine x_dup dX9_takeNumber_56 rfl ?_
    refine x_getI fdX9_37 rfl dX9_takeNumber_57 f1.1 f1.2 ?_
    refine x_iconst (v := 1) dX9_takeNumber_60 (by decide) ?_
    refine x_iadd dX9_takeNumber_61 ?_
    refine x_putI fdX9_37 rfl (Or.inl rfl) dX9_takeNumber_62 f1.1 f1.2 rfl rfl ?_
    refine x_goto 5 dX9_takeNumber_65 (by decide) ?_
    exact EX.sub [0] (k3 c1) rfl
set_option maxRecDepth 8000 in
theorem qX9_takeSign_0 {g : GG} {d : Nat} {M : MM} {P : Option Value → MM → Prop}  {M1 : MM} {M2 : MM} {la lb pa pb rl : Nat} (L : Lay M la lb pa pb rl)
    (qM1 : M1 = wi M 25 9 (mi M 27 ((mi M 25 4) : Int32).toNatClampNeg))
    (qM2 : M2 = wi M1 25 4 ((mi M1 25 4) + 1))
    (h1 : ¬ ((mi M 25 2) ≤ (mi M 25 4)) → vp_in (mi M 25 4) 1000)
    (h2 : ¬ ((mi M 25 2) ≤ (mi M 25 4)) → narrow .char (.int (mi M 27 ((mi M 25 4) : Int32).toNatClampNeg)) = .int (mi M 27 ((mi M 25 4) : Int32).toNatClampNeg) ∧ fits .char (.int (mi M 27 ((mi M 25 4) : Int32).toNatClampNeg)) = true)
    (k1 : (mi M 25 2) ≤ (mi M 25 4) → E0 g YX9_takeSign d 34 [(0, .ref 25)] [] M P)
    (k2 : ¬ ((mi M 25 2) ≤ (mi M 25 4)) → E0 g YX9_takeSign d 34 [(0, .ref 25)] [] M2 P) :
    E0 g YX9_takeSign d 0 [(0, .ref 25)] [] M P := by
  have f1 : ob M 25 9 := L.s rfl (by decide)
  have f2 : mr M 25 1 = some 27 := L.r 33 rfl
  have f3 : ar M 27 4 1000 := L.s rfl (by decide)
  subst qM1 qM2
  refine x_aload_n dX9_takeSign_0 0 rfl ?_
  refine x_getI fdX9_37 rfl dX9_takeSign_1 f1.1 f1.2 ?_
  refine x_aload_n dX9_takeSign_4 0 rfl ?_
  refine x_getI fdX9_33 rfl dX9_takeSign_5 f1.1 f1.2 ?_
  refine x_ic_ge 34 dX9_takeSign_8 (by decide) (fun c1 => ?_) (fun c1 => ?_)
  · exact EX.sub [0] (k1 c1) rfl
  · refine x_aload_n dX9_takeSign_11 0 rfl ?_
    refine x_aload_n dX9_takeSign_12 0 rfl ?_
    refine x_getR fdX9_15 rfl dX9_takeSign_13 f1.1 f1.2 f2 ?_
    refine x_aload_n dX9_takeSign_16 0 rfl ?_
    refine x_getI fdX9_37 rfl dX9_takeSign_17 f1.1 f1.2 ?_
    refine x_cald dX9_takeSign_20 f3.1 f3.2 (h1 c1) ?_
    refine x_putI fdX9_46 rfl (Or.inl rfl) dX9_takeSign_21 f1.1 f1.2 (h2 c1).1 (h2 c1).2 ?_
    refine x_aload_n dX9_takeSign_24 0 rfl ?_
    refine x_dup dX9_takeSign_25 rfl ?_
    refine x_getI fdX9_37 rfl dX9_takeSign_26 f1.1 f1.2 ?_
    refine x_iconst (v := 1) dX9_takeSign_29 (by decide) ?_
    refine x_iadd dX9_takeSign_30 ?_
    refine x_putI fdX9_37 rfl (Or.inl rfl) dX9_takeSign_31 f1.1 f1.2 rfl rfl ?_
    exact EX.sub [0] (k2 c1) rfl
set_option maxRecDepth 8000 in
theorem qX9_takeSign_34 {g : GG} {d : Nat} {M : MM} {P : Option Value → MM → Prop}  {la lb pa pb rl : Nat} (L : Lay M la lb pa pb rl)
    (k1 : ((mi M 25 9) : Int32).toInt < 40 ∨ 61 < ((mi M 25 9) : Int32).toInt → E0 g YX9_takeSign d 148 [(0, .ref 25)] [] M P)
    (k2 : ((mi M 25 9) : Int32).toInt = 40 → E0 g YX9_takeSign d 140 [(0, .ref 25)] [] M P)
    (k3 : ((mi M 25 9) : Int32).toInt = 41 → E0 g YX9_takeSign d 140 [(0, .ref 25)] [] M P)
    (k4 : ((mi M 25 9) : Int32).toInt = 42 → E0 g YX9_takeSign d 140 [(0, .ref 25)] [] M P)
    (k5 : ((mi M 25 9) : Int32).toInt = 43 → E0 g YX9_takeSign d 140 [(0, .ref 25)] [] M P)
    (k6 : ((mi M 25 9) : Int32).toInt = 44 → E0 g YX9_takeSign d 148 [(0, .ref 25)] [] M P)
    (k7 : ((mi M 25 9) : Int32).toInt = 45 → E0 g YX9_takeSign d 140 [(0, .ref 25)] [] M P)
    (k8 : ((mi M 25 9) : Int32).toInt = 46 → E0 g YX9_takeSign d 148 [(0, .ref 25)] [] M P)
    (k9 : ((mi M 25 9) : Int32).toInt = 47 → E0 g YX9_takeSign d 148 [(0, .ref 25)] [] M P)
    (k10 : ((mi M 25 9) : Int32).toInt = 48 → E0 g YX9_takeSign d 148 [(0, .ref 25)] [] M P)
    (k11 : ((mi M 25 9) : Int32).toInt = 49 → E0 g YX9_takeSign d 148 [(0, .ref 25)] [] M P)
    (k12 : ((mi M 25 9) : Int32).toInt = 50 → E0 g YX9_takeSign d 148 [(0, .ref 25)] [] M P)
    (k13 : ((mi M 25 9) : Int32).toInt = 51 → E0 g YX9_takeSign d 148 [(0, .ref 25)] [] M P)
    (k14 : ((mi M 25 9) : Int32).toInt = 52 → E0 g YX9_takeSign d 148 [(0, .ref 25)] [] M P)
    (k15 : ((mi M 25 9) : Int32).toInt = 53 → E0 g YX9_takeSign d 148 [(0, .ref 25)] [] M P)
    (k16 : ((mi M 25 9) : Int32).toInt = 54 → E0 g YX9_takeSign d 148 [(0, .ref 25)] [] M P)
    (k17 : ((mi M 25 9) : Int32).toInt = 55 → E0 g YX9_takeSign d 148 [(0, .ref 25)] [] M P)
    (k18 : ((mi M 25 9) : Int32).toInt = 56 → E0 g YX9_takeSign d 148 [(0, .ref 25)] [] M P)
    (k19 : ((mi M 25 9) : Int32).toInt = 57 → E0 g YX9_takeSign d 148 [(0, .ref 25)] [] M P)
    (k20 : ((mi M 25 9) : Int32).toInt = 58 → E0 g YX9_takeSign d 148 [(0, .ref 25)] [] M P)
    (k21 : ((mi M 25 9) : Int32).toInt = 59 → E0 g YX9_takeSign d 140 [(0, .ref 25)] [] M P)
    (k22 : ((mi M 25 9) : Int32).toInt = 60 → E0 g YX9_takeSign d 140 [(0, .ref 25)] [] M P)
    (k23 : ((mi M 25 9) : Int32).toInt = 61 → E0 g YX9_takeSign d 140 [(0, .ref 25)] [] M P) :
    E0 g YX9_takeSign d 34 [(0, .ref 25)] [] M P := by
  have f1 : ob M 25 9 := L.s rfl (by decide)
  refine x_aload_n dX9_takeSign_34 0 rfl ?_
  refine x_getI fdX9_46 rfl dX9_takeSign_35 f1.1 f1.2 ?_
  by_cases c1 : ((mi M 25 9) : Int32).toInt < 40 ∨ 61 < ((mi M 25 9) : Int32).toInt
  · refine x_tabOut 148 dX9_takeSign_38 c1 (by decide) ?_
    exact EX.sub [0] (k1 c1) rfl
  · have qc1 : ((mi M 25 9) : Int32).toInt = 40 ∨ ((mi M 25 9) : Int32).toInt = 41 ∨ ((mi M 25 9) : Int32).toInt = 42 ∨ ((mi M 25 9) : Int32).toInt = 43 ∨ ((mi M 25 9) : Int32).toInt = 44 ∨ ((mi M 25 9) : Int32).toInt = 45 ∨ ((mi M 25 9) : Int32).toInt = 46 ∨ ((mi M 25 9) : Int32).toInt = 47 ∨ ((mi M 25 9) : Int32).toInt = 48 ∨ ((mi M 25 9) : Int32).toInt = 49 ∨ ((mi M 25 9) : Int32).toInt = 50 ∨ ((mi M 25 9) : Int32).toInt = 51 ∨ ((mi M 25 9) : Int32).toInt = 52 ∨ ((mi M 25 9) : Int32).toInt = 53 ∨ ((mi M 25 9) : Int32).toInt = 54 ∨ ((mi M 25 9) : Int32).toInt = 55 ∨ ((mi M 25 9) : Int32).toInt = 56 ∨ ((mi M 25 9) : Int32).toInt = 57 ∨ ((mi M 25 9) : Int32).toInt = 58 ∨ ((mi M 25 9) : Int32).toInt = 59 ∨ ((mi M 25 9) : Int32).toInt = 60 ∨ ((mi M 25 9) : Int32).toInt = 61 := by omega
    clear c1
    rcases qc1 with c1 | c1 | c1 | c1 | c1 | c1 | c1 | c1 | c1 | c1 | c1 | c1 | c1 | c1 | c1 | c1 | c1 | c1 | c1 | c1 | c1 | c1
    · refine x_tabIn 140 dX9_takeSign_38 (by omega) (by omega) (off := 102) (by rw [show (((mi M 25 9) : Int32).toInt - 40).toNat = 0 by omega]; rfl) (by decide) ?_
      exact EX.sub [0] (k2 c1) rfl
    · refine x_tabIn 140 dX9_takeSign_38 (by omega) (by omega) (off := 102) (by rw [show (((mi M 25 9) : Int32).toInt - 40).toNat = 1 by omega]; rfl) (by decide) ?_
      exact EX.sub [0] (k3 c1) rfl
    · refine x_tabIn 140 dX9_takeSign_38 (by omega) (by omega) (off := 102) (by rw [show (((mi M 25 9) : Int32).toInt - 40).toNat = 2 by omega]; rfl) (by decide) ?_
      exact EX.sub [0] (k4 c1) rfl
    · refine x_tabIn 140 dX9_takeSign_38 (by omega) (by omega) (off := 102) (by rw [show (((mi M 25 9) : Int32).toInt - 40).toNat = 3 by omega]; rfl) (by decide) ?_
      exact EX.sub [0] (k5 c1) rfl
    · refine x_tabIn 148 dX9_takeSign_38 (by omega) (by omega) (off := 110) (by rw [show (((mi M 25 9) : Int32).toInt - 40).toNat = 4 by omega]; rfl) (by decide) ?_
      exact EX.sub [0] (k6 c1) rfl
    · refine x_tabIn 140 dX9_takeSign_38 (by omega) (by omega) (off := 102) (by rw [show (((mi M 25 9) : Int32).toInt - 40).toNat = 5 by omega]; rfl) (by decide) ?_
      exact EX.sub [0] (k7 c1) rfl
    · refine x_tabIn 148 dX9_takeSign_38 (by omega) (by omega) (off := 110) (by rw [show (((mi M 25 9) : Int32).toInt - 40).toNat = 6 by omega]; rfl) (by decide) ?_
      exact EX.sub [0] (k8 c1) rfl
    · refine x_tabIn 148 dX9_takeSign_38 (by omega) (by omega) (off := 110) (by rw [show (((mi M 25 9) : Int32).toInt - 40).toNat = 7 by omega]; rfl) (by decide) ?_
      exact EX.sub [0] (k9 c1) rfl
    · refine x_tabIn 148 dX9_takeSign_38 (by omega) (by omega) (off := 110) (by rw [show (((mi M 25 9) : Int32).toInt - 40).toNat = 8 by omega]; rfl) (by decide) ?_
      exact EX.sub [0] (k10 c1) rfl
    · refine x_tabIn 148 dX9_takeSign_38 (by omega) (by omega) (off := 110) (by rw [show (((mi M 25 9) : Int32).toInt - 40).toNat = 9 by omega]; rfl) (by decide) ?_
      exact EX.sub [0] (k11 c1) rfl
    · refine x_tabIn 148 dX9_takeSign_38 (by omega) (by omega) (off := 110) (by rw [show (((mi M 25 9) : Int32).toInt - 40).toNat = 10 by omega]; rfl) (by decide) ?_
      exact EX.sub [0] (k12 c1) rfl
    · refine x_tabIn 148 dX9_takeSign_38 (by omega) (by omega) (off := 110) (by rw [show (((mi M 25 9) : Int32).toInt - 40).toNat = 11 by omega]; rfl) (by decide) ?_
      exact EX.sub [0] (k13 c1) rfl
    · refine x_tabIn 148 dX9_takeSign_38 (by omega) (by omega) (off := 110) (by rw [show (((mi M 25 9) : Int32).toInt - 40).toNat = 12 by omega]; rfl) (by decide) ?_
      exact EX.sub [0] (k14 c1) rfl
    · refine x_tabIn 148 dX9_takeSign_38 (by omega) (by omega) (off := 110) (by rw [show (((mi M 25 9) : Int32).toInt - 40).toNat = 13 by omega]; rfl) (by decide) ?_
      exact EX.sub [0] (k15 c1) rfl
    · refine x_tabIn 148 dX9_takeSign_38 (by omega) (by omega) (off := 110) (by rw [show (((mi M 25 9) : Int32).toInt - 40).toNat = 14 by omega]; rfl) (by decide) ?_
      exact EX.sub [0] (k16 c1) rfl
    · refine x_tabIn 148 dX9_takeSign_38 (by omega) (by omega) (off := 110) (by rw [show (((mi M 25 9) : Int32).toInt - 40).toNat = 15 by omega]; rfl) (by decide) ?_
      exact EX.sub [0] (k17 c1) rfl
    · refine x_tabIn 148 dX9_takeSign_38 (by omega) (by omega) (off := 110) (by rw [show (((mi M 25 9) : Int32).toInt - 40).toNat = 16 by omega]; rfl) (by decide) ?_
      exact EX.sub [0] (k18 c1) rfl
    · refine x_tabIn 148 dX9_takeSign_38 (by omega) (by omega) (off := 110) (by rw [show (((mi M 25 9) : Int32).toInt - 40).toNat = 17 by omega]; rfl) (by decide) ?_
      exact EX.sub [0] (k19 c1) rfl
    · refine x_tabIn 148 dX9_takeSign_38 (by omega) (by omega) (off := 110) (by rw [show (((mi M 25 9) : Int32).toInt - 40).toNat = 18 by omega]; rfl) (by decide) ?_
      exact EX.sub [0] (k20 c1) rfl
    · refine x_tabIn 140 dX9_takeSign_38 (by omega) (by omega) (off := 102) (by rw [show (((mi M 25 9) : Int32).toInt - 40).toNat = 19 by omega]; rfl) (by decide) ?_
      exact EX.sub [0] (k21 c1) rfl
    · refine x_tabIn 140 dX9_takeSign_38 (by omega) (by omega) (off := 102) (by rw [show (((mi M 25 9) : Int32).toInt - 40).toNat = 20 by omega]; rfl) (by decide) ?_
      exact EX.sub [0] (k22 c1) rfl
    · refine x_tabIn 140 dX9_takeSign_38 (by omega) (by omega) (off := 102) (by rw [show (((mi M 25 9) : Int32).toInt - 40).toNat = 21 by omega]; rfl) (by decide) ?_
      exact EX.sub [0] (k23 c1) rfl
set_option maxRecDepth 8000 in
theorem qX9_takeSign_140 {g : GG} {d : Nat} {M : MM} {P : Option Value → MM → Prop}  {M1 : MM} {la lb pa pb rl : Nat} (L : Lay M la lb pa pb rl)
    (qM1 : M1 = wi M 25 5 3)
    (k1 : P none M1) :
    E0 g YX9_takeSign d 140 [(0, .ref 25)] [] M P := by
  have f1 : ob M 25 9 := L.s rfl (by decide)
  subst qM1
  refine x_aload_n dX9_takeSign_140 0 rfl ?_
  refine x_iconst (v := 3) dX9_takeSign_141 (by decide) ?_
  refine x_putI fdX9_53 rfl (Or.inl rfl) dX9_takeSign_142 f1.1 f1.2 rfl rfl ?_
  refine x_goto 153 dX9_takeSign_145 (by decide) ?_
  exact x_vret rfl dX9_takeSign_153 (Nat.le_refl _) (Nat.le_refl _) (k1)
set_option maxRecDepth 8000 in
theorem qX9_takeSign_148 {g : GG} {d : Nat} {M : MM} {P : Option Value → MM → Prop}  {M1 : MM} {la lb pa pb rl : Nat} (L : Lay M la lb pa pb rl)
    (qM1 : M1 = wi M 25 5 4)
    (k1 : P none M1) :
    E0 g YX9_takeSign d 148 [(0, .ref 25)] [] M P := by
  have f1 : ob M 25 9 := L.s rfl (by decide)
  subst qM1
  refine x_aload_n dX9_takeSign_148 0 rfl ?_
  refine x_iconst (v := 4) dX9_takeSign_149 (by decide) ?_
  refine x_putI fdX9_53 rfl (Or.inl rfl) dX9_takeSign_150 f1.1 f1.2 rfl rfl ?_
  exact x_vret rfl dX9_takeSign_153 (Nat.le_refl _) (Nat.le_refl _) (k1)
set_option maxRecDepth 8000 in
theorem qX9_isSign_0 {g : GG} {d : Nat} {M : MM} {P : Option Value → MM → Prop} {i1 : Int32} {la lb pa pb rl : Nat} (L : Lay M la lb pa pb rl)
    (k1 : ¬ (mi M 25 5) = 3 → P (some (.int 0)) M)
    (k2 : (mi M 25 5) = 3 → ¬ (mi M 25 9) = i1 → P (some (.int 0)) M)
    (k3 : (mi M 25 5) = 3 → (mi M 25 9) = i1 → P (some (.int 1)) M) :
    E0 g YX9_isSign d 0 [(0, .ref 25), (1, .int i1)] [] M P := by
  have f1 : ob M 25 9 := L.s rfl (by decide)
  refine x_aload_n dX9_isSign_0 0 rfl ?_
  refine x_getI fdX9_53 rfl dX9_isSign_1 f1.1 f1.2 ?_
  refine x_iconst (v := 3) dX9_isSign_4 (by decide) ?_
  refine x_ic_ne 20 dX9_isSign_5 (by decide) (fun c1 => ?_) (fun c1 => ?_)
  · refine x_iconst (v := 0) dX9_isSign_20 (by decide) ?_
    exact x_zret rfl dX9_isSign_21 rfl (Nat.le_refl _) (Nat.le_refl _) (k1 c1)
  · refine x_aload_n dX9_isSign_8 0 rfl ?_
    refine x_getI fdX9_46 rfl dX9_isSign_9 f1.1 f1.2 ?_
    refine x_iload_n dX9_isSign_12 1 rfl ?_
    refine x_ic_ne 20 dX9_isSign_13 (by decide) (fun c2 => ?_) (fun c2 => ?_)
    · refine x_iconst (v := 0) dX9_isSign_20 (by decide) ?_
      exact x_zret rfl dX9_isSign_21 rfl (Nat.le_refl _) (Nat.le_refl _) (k2 c1 c2)
    · refine x_iconst (v := 1) dX9_isSign_16 (by decide) ?_
      refine x_goto 21 dX9_isSign_17 (by decide) ?_
      exact x_zret rfl dX9_isSign_21 rfl (Nat.le_refl _) (Nat.le_refl _) (k3 c1 c2)
set_option maxRecDepth 8000 in
theorem qX9_isLetter_0 {g : GG} {d : Nat} {M : MM} {P : Option Value → MM → Prop} {i0 : Int32}
    (k1 : i0 < 97 → P (some (.int 0)) M)
    (k2 : ¬ (i0 < 97) → 122 < i0 → P (some (.int 0)) M)
    (k3 : ¬ (i0 < 97) → ¬ (122 < i0) → P (some (.int 1)) M) :
    E0 g YX9_isLetter d 0 [(0, .int i0)] [] M P := by
  refine x_iload_n dX9_isLetter_0 0 rfl ?_
  refine x_bipush (v := 97) dX9_isLetter_1 (by decide) ?_
  refine x_ic_lt 16 dX9_isLetter_3 (by decide) (fun c1 => ?_) (fun c1 => ?_)
  · refine x_iconst (v := 0) dX9_isLetter_16 (by decide) ?_
    exact x_zret rfl dX9_isLetter_17 rfl (Nat.le_refl _) (Nat.le_refl _) (k1 c1)
  · refine x_iload_n dX9_isLetter_6 0 rfl ?_
    refine x_bipush (v := 122) dX9_isLetter_7 (by decide) ?_
    refine x_ic_gt 16 dX9_isLetter_9 (by decide) (fun c2 => ?_) (fun c2 => ?_)
    · refine x_iconst (v := 0) dX9_isLetter_16 (by decide) ?_
      exact x_zret rfl dX9_isLetter_17 rfl (Nat.le_refl _) (Nat.le_refl _) (k2 c1 c2)
    · refine x_iconst (v := 1) dX9_isLetter_12 (by decide) ?_
      refine x_goto 17 dX9_isLetter_13 (by decide) ?_
      exact x_zret rfl dX9_isLetter_17 rfl (Nat.le_refl _) (Nat.le_refl _) (k3 c1 c2)
set_option maxRecDepth 8000 in
theorem qX9_isDigit_0 {g : GG} {d : Nat} {M : MM} {P : Option Value → MM → Prop} {i0 : Int32}
    (k1 : i0 < 48 → P (some (.int 0)) M)
    (k2 : ¬ (i0 < 48) → 57 < i0 → P (some (.int 0)) M)
    (k3 : ¬ (i0 < 48) → ¬ (57 < i0) → P (some (.int 1)) M) :
    E0 g YX9_isDigit d 0 [(0, .int i0)] [] M P := by
  refine x_iload_n dX9_isDigit_0 0 rfl ?_
  refine x_bipush (v := 48) dX9_isDigit_1 (by decide) ?_
  refine x_ic_lt 16 dX9_isDigit_3 (by decide) (fun c1 => ?_) (fun c1 => ?_)
  · refine x_iconst (v := 0) dX9_isDigit_16 (by decide) ?_
    exact x_zret rfl dX9_isDigit_17 rfl (Nat.le_refl _) (Nat.le_refl _) (k1 c1)
  · refine x_iload_n dX9_isDigit_6 0 rfl ?_
    refine x_bipush (v := 57) dX9_isDigit_7 (by decide) ?_
    refine x_ic_gt 16 dX9_isDigit_9 (by decide) (fun c2 => ?_) (fun c2 => ?_)
    · refine x_iconst (v := 0) dX9_isDigit_16 (by decide) ?_
      exact x_zret rfl dX9_isDigit_17 rfl (Nat.le_refl _) (Nat.le_refl _) (k2 c1 c2)
    · refine x_iconst (v := 1) dX9_isDigit_12 (by decide) ?_
      refine x_goto 17 dX9_isDigit_13 (by decide) ?_
      exact x_zret rfl dX9_isDigit_17 rfl (Nat.le_refl _) (Nat.le_refl _) (k3 c1 c2)
